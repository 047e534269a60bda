/** Promises 26 to 28: the seed, images. */
public final class ImageTest {
    public static void main(String[] args) {
        seeds();
        images();
        ofNothing();
        Check.end();
    }

    private static void seeds() {
        OatFerry x = new OatFerry();
        Check.due("seed(7)", x.seed(7), 0);
        Check.due("seed(-1)", x.seed(-1), OatFerry.OUTSIDE);
        Check.due("seed least", x.seed(Integer.MIN_VALUE), OatFerry.OUTSIDE);
        Check.due("seed most", x.seed(2147483647), 7);
        Check.due("seed(0)", x.seed(0), 2147483647);
        OatFerry y = Check.ferry("belt sum 1 1;horse 1 1 1;");
        y.drift(1);
        // 0 becomes 12345, then two draws more: the load and the rest.
        long seed = 12345;
        seed = (seed * 1103515245L + 12345L) % 2147483648L;
        seed = (seed * 1103515245L + 12345L) % 2147483648L;
        Check.due("three draws", y.seed(0), seed);
        y.seed(2147483647);
        y.drift(1);
        seed = 2147483647L;
        for (int i = 0; i < 3; i++) {
            seed = (seed * 1103515245L + 12345L) % 2147483648L;
        }
        Check.due("three draws from the most", y.seed(0), seed);
    }

    private static void images() {
        OatFerry x = Check.ferry("belt sum 2 30;horse 10 3 2;horse 4 50 1;cart 3;");
        Check.due("keep(2)", x.keep(2), OatFerry.UNKNOWN);
        Check.due("keep(-1)", x.keep(-1), OatFerry.UNKNOWN);
        Check.due("goBack(2)", x.goBack(2), OatFerry.UNKNOWN);
        Check.due("goBack(-1)", x.goBack(-1), OatFerry.UNKNOWN);
        Check.due("not kept", x.goBack(1), OatFerry.NOT);
        x.put(0, 1);
        x.cross(9);
        x.seed(77);
        Check.due("keep(1)", x.keep(1), 1);
        Check.due("the other is not kept", x.goBack(0), OatFerry.NOT);
        x.put(0, -1);
        x.put(1, 1);
        x.rest(5);
        x.cross(20);
        x.seed(5);
        x.tell(0, -1, -1, 0, 3);
        x.feed(2, 0x4141);
        Check.due("keep(0)", x.keep(0), 1);
        for (int round = 0; round < 2; round++) {
            Check.due("goBack(1)", x.goBack(1), 1);
            Check.due("the hour", x.told(7), 1);
            Check.due("oats", x.told(8), 30);
            Check.due("missed", x.told(9), 1);
            Check.due("strength", x.horse(0, 4), 0);
            Check.due("strength", x.horse(1, 4), 50);
            Check.due("at(1)", x.at(1), 0);
            Check.due("horse(1, 5)", x.horse(1, 5), -1);
            Check.due("times told stay", x.told(10), 1);
            Check.due("the text stays", x.told(6), 2);
            Check.due("the seed", x.seed(6), 77);
            x.rest(1);
            x.put(0, 0);
            Check.due("goBack(0)", x.goBack(0), 1);
            Check.due("the hour", x.told(7), 7);
            Check.due("oats", x.told(8), 230);
            Check.due("missed", x.told(9), 2);
            Check.due("strength", x.horse(0, 4), 3);
            Check.due("at(1)", x.at(1), 1);
            Check.due("at(0)", x.at(0), -1);
            Check.due("the seed", x.seed(6), 5);
        }
    }

    private static void ofNothing() {
        OatFerry x = new OatFerry();
        Check.due("keep(0)", x.keep(0), 1);
        x.rest(3);
        x.seed(9);
        Check.due("goBack(0)", x.goBack(0), 1);
        Check.due("the hour", x.told(7), 0);
        Check.due("the seed", x.seed(0), 0);
        Check.due("an empty ferry()", x.ferry(), 0);
        Check.due("images are gone", x.goBack(0), OatFerry.NOT);
    }
}
