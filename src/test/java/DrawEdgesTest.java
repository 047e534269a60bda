import java.math.BigInteger;
import java.util.Arrays;

/** BY DRAWS and IMAGES of part 3, promises 14 and 26 to 28: each sentence that names an edge. */
public final class DrawEdgesTest {
    private static final int NONE = OatFerry.NONE, UNKNOWN = OatFerry.UNKNOWN, OUTSIDE = OatFerry.OUTSIDE;
    private static final int NOT = OatFerry.NOT, LEAST = Integer.MIN_VALUE, MOST = Integer.MAX_VALUE;

    /** THE SEED by the document's own words, in numbers without bounds. */
    private static final class Draws {
        private static final BigInteger ALL = BigInteger.TWO.pow(31);
        BigInteger seed;

        Draws(long seed) {
            this.seed = BigInteger.valueOf(seed);
        }

        int of(int n) {
            seed = seed.multiply(BigInteger.valueOf(1103515245)).add(BigInteger.valueOf(12345)).mod(ALL);
            return seed.divide(BigInteger.valueOf(65536)).mod(BigInteger.valueOf(n)).intValueExact();
        }
    }

    public static void main(String[] args) {
        driftBounds();
        seedBounds();
        theSeedIsLeftOver();
        whoStands();
        firstNobodyStands();
        ifSomebodyStands();
        theLoad();
        allRest();
        daysOneByOne();
        missedSoFar();
        imageBounds();
        whatAnImageKeeps();
        whatAnImageLeaves();
        anImageIsKeptAnew();
        Check.end();
    }

    private static void driftBounds() {
        Check.about("n days (1 .. 99). OUTSIDE, NOT: no PLACES, no HORSES");
        OatFerry x = Check.ferry("belt sum 1 1;horse 30 200 60;");
        Check.each("drift", x::drift, OUTSIDE, 0, -1, 100, LEAST, MOST);
        Check.due("the hour", x.told(7), 0);
        Check.due("the seed", x.seed(0), 0);
        Check.due("drift(1)", x.drift(1), 0);
        Check.due("drift(98)", x.drift(98), 0);
        Check.due("drift(99)", x.drift(99), 0);
        OatFerry none = new OatFerry();
        Check.each("no PLACES: drift", none::drift, NOT, 1, 99);
        Check.each("OUTSIDE ahead of NOT: drift", none::drift, OUTSIDE, 0, 100);
        OatFerry noHorses = Check.ferry("belt sum 3 1;tide 40;");
        Check.each("no HORSES: drift", noHorses::drift, NOT, 1, 99);
        Check.each("OUTSIDE ahead of NOT: drift", noHorses::drift, OUTSIDE, 0, 100);
        Check.due("the seed", noHorses.seed(0), 0);
        Check.due("the hour", noHorses.told(7), 0);
    }

    private static void seedBounds() {
        Check.about("THE SEED becomes v (0 .. 2147483647): what it was. OUTSIDE");
        OatFerry x = new OatFerry();
        Check.due("0 at first", x.seed(1), 0);
        Check.each("seed", x::seed, OUTSIDE, -1, -2, LEAST, NONE, UNKNOWN);
        Check.due("the most", x.seed(2147483647), 1);
        Check.due("one less", x.seed(2147483646), 2147483647);
        Check.due("the least", x.seed(0), 2147483646);
        Check.due("it was the least", x.seed(0), 0);
    }

    private static void theSeedIsLeftOver() {
        Check.about("it becomes it times 1103515245 and 12345, left over by 2 to the 31");
        for (int seed : new int[] {0, 1, 2, 65535, 65536, 12345, 1073741823, 1073741824, 2147483646, 2147483647}) {
            OatFerry x = Check.ferry("belt sum 2 1;horse 30 200 60;");
            x.seed(seed);
            x.drift(1);
            Draws draws = new Draws(seed);
            for (int i = 0; i < 4; i++) {
                draws.of(1);
            }
            Check.due("two PLACES, a LOAD, a rest, from " + seed, x.seed(0), draws.seed.intValueExact());
        }
    }

    private static void whoStands() {
        Check.about("a DRAW of how many HORSES there are and 1: that HORSE, if it stands nowhere yet (the last number: nobody)");
        boolean[] seen = new boolean[8];
        for (int seed = 0; seed < 300; seed++) {
            int horses = 1 + seed % 6;
            OatFerry x = Check.ferry("belt sum 3 1;" + "horse 30 200 0;".repeat(horses));
            x.seed(seed * 7919);
            x.drift(1);
            Draws draws = new Draws(seed * 7919);
            int[] stands = {NONE, NONE, NONE};
            for (int p = 0; p < 3; p++) {
                int h = draws.of(horses + 1);
                boolean again = h == stands[0] || h == stands[1] || h == stands[2];
                seen[again ? 6 : h == horses ? 7 : h] = true;
                if (h < horses && !again) {
                    stands[p] = h;
                }
            }
            for (int p = 0; p < 3; p++) {
                Check.due("seed " + seed + ": at(" + p + ")", x.at(p), stands[p]);
            }
        }
        for (boolean one : seen) {
            Check.yes("each HORSE, one again, and the last number came", one);
        }
    }

    /** The first seed whose first day is such, with so many places and horses. */
    private static int seedOfADay(int places, int horses, boolean somebody, int load, int rest) {
        for (int seed = 0; seed < 2000000; seed++) {
            Draws draws = new Draws(seed);
            boolean stands = false;
            for (int p = 0; p < places; p++) {
                stands |= draws.of(horses + 1) < horses;
            }
            int itsLoad = draws.of(30);
            int itsRest = draws.of(4);
            if (stands == somebody && (load == NONE || load == itsLoad) && rest == itsRest) {
                return seed;
            }
        }
        Check.yes("there is such a day", false);
        return 0;
    }

    private static void firstNobodyStands() {
        Check.about("first nobody stands");
        OatFerry x = Check.ferry("belt sum 3 1;horse 10 99 0;horse 10 99 0;");
        x.put(0, 0);
        x.put(1, 2);
        x.seed(seedOfADay(3, 2, false, NONE, 2));
        x.drift(1);
        for (int p = 0; p < 3; p++) {
            Check.due("at(" + p + ")", x.at(p), NONE);
        }
        Check.due("horse(0, 5)", x.horse(0, 5), NONE);
    }

    private static void ifSomebodyStands() {
        Check.about("they CROSS, if somebody stands");
        for (int hours = 0; hours < 4; hours++) {
            OatFerry x = Check.ferry("belt sum 1 5;horse 5 99 1;");
            x.put(0, 0);
            x.cross(240);
            Check.due("lame, missed", x.told(12) + x.told(9), 2);
            x.seed(seedOfADay(1, 1, false, NONE, hours));
            Check.due("none more missed", x.drift(1), 1);
            Check.due("the hours of the rest alone", x.told(7), 1 + hours);
            Check.due("no crossing's rest", x.horse(0, 4), hours);
            Check.due("nothing eaten", x.told(8), 495);
            x.seed(seedOfADay(1, 1, true, 29, hours));
            Check.due("somebody stands: one more missed", x.drift(1), 2);
            Check.due("an hour more", x.told(7), 2 + 2 * hours);
        }
    }

    private static void theLoad() {
        Check.about("a DRAW of 30 is the LOAD");
        for (int load = 0; load < 30; load++) {
            OatFerry x = Check.ferry("belt sum 1 120;horse 30 200 0;");
            x.seed(seedOfADay(1, 1, true, load, 0));
            int pace = 30 - load;
            Check.due("over, with a load of " + load, x.drift(1), 0);
            Check.due("minutes by a load of " + load, 200 - x.horse(0, 4), (120 + pace - 1) / pace);
        }
    }

    private static void allRest() {
        Check.about("then all rest a DRAW of 4 hours");
        for (int hours = 0; hours < 4; hours++) {
            OatFerry x = Check.ferry("belt sum 1 30;horse 30 200 7;tide 40;");
            x.put(0, 0);
            x.cross(240);
            x.seed(seedOfADay(1, 1, true, 0, hours));
            Check.due("drift(1)", x.drift(1), 1);
            Check.due("the hour", x.told(7), 2 + hours);
            Check.due("who stood rests now", x.horse(0, 4), 79 + 7 * hours);
            Check.due("who stood stands", x.at(0), 0);
        }
    }

    private static void daysOneByOne() {
        Check.about("n days");
        OatFerry x = Check.ferry("belt slowest 3 90;horse 30 90 9;horse 20 70 30;horse 25 200 1;beside 0 1 9;tide 20,33,9;");
        OatFerry y = Check.ferry("belt slowest 3 90;horse 30 90 9;horse 20 70 30;horse 25 200 1;beside 0 1 9;tide 20,33,9;");
        x.seed(99);
        y.seed(99);
        x.drift(99);
        for (int day = 0; day < 99; day++) {
            y.drift(1);
        }
        for (int what = 7; what <= 12; what++) {
            Check.due("told(" + what + ")", x.told(what), y.told(what));
        }
        for (int h = 0; h < 3; h++) {
            Check.due("horse(" + h + ", 4)", x.horse(h, 4), y.horse(h, 4));
            Check.due("at(" + h + ")", x.at(h), y.at(h));
        }
        Check.due("seed", x.seed(0), y.seed(0));
    }

    private static void missedSoFar() {
        Check.about("landings MISSED so far");
        OatFerry x = Check.ferry("belt sum 1 999;horse 1 1 0;");
        x.put(0, 0);
        for (int i = 0; i < 3; i++) {
            x.cross(0);
        }
        x.seed(seedOfADay(1, 1, false, NONE, 1));
        Check.due("three ahead of it", x.drift(1), 3);
        x.seed(seedOfADay(1, 1, true, NONE, 1));
        Check.due("one more", x.drift(1), 4);
        Check.due("told(9)", x.told(9), 4);
    }

    private static void imageBounds() {
        Check.about("IMAGES 0, 1. UNKNOWN, NOT: it was not kept");
        OatFerry x = Check.ferry("belt sum 1 1;horse 1 1 0;");
        Check.each("keep", x::keep, UNKNOWN, -1, 2, 3, LEAST, MOST);
        Check.each("goBack", x::goBack, UNKNOWN, -1, 2, 3, LEAST, MOST);
        Check.each("goBack", x::goBack, NOT, 0, 1);
        Check.due("keep(1)", x.keep(1), 1);
        Check.due("goBack(0)", x.goBack(0), NOT);
        Check.due("goBack(1)", x.goBack(1), 1);
        Check.due("keep(0)", x.keep(0), 1);
        Check.due("goBack(0)", x.goBack(0), 1);
        Check.each("still: goBack", x::goBack, UNKNOWN, -1, 2);
        OatFerry none = new OatFerry();
        Check.each("no ferry: goBack", none::goBack, NOT, 0, 1);
        Check.due("no ferry: keep(0)", none.keep(0), 1);
        Check.due("no ferry: goBack(0)", none.goBack(0), 1);
    }

    /** The hour, oats, missed, lame; strengths; who stands; the seed. */
    private static int[] whatIsSo(OatFerry x) {
        int seed = x.seed(0);
        x.seed(seed);
        return new int[] {x.told(7), x.told(8), x.told(9), x.told(12), x.horse(0, 4), x.horse(1, 4), x.horse(2, 4),
            x.at(0), x.at(1), x.horse(0, 5), x.horse(1, 5), x.horse(2, 5), seed};
    }

    private static void same(String when, int[] got, int[] want) {
        for (int i = 0; i < want.length; i++) {
            Check.due(when + ", number " + i + " of " + Arrays.toString(want), got[i], want[i]);
        }
    }

    private static void whatAnImageKeeps() {
        Check.about("keep THE HOUR, STRENGTHS, who stands where, OATS eaten, landings MISSED, THE SEED");
        OatFerry x = Check.ferry("belt sum 2 50;horse 10 30 2;horse 5 40 3;horse 7 50 4;tide 20,25;");
        int[] atFirst = whatIsSo(x);
        x.keep(0);
        x.put(0, 1);
        x.put(1, 0);
        x.cross(3);
        x.cross(200);
        x.rest(4);
        x.seed(77);
        int[] later = whatIsSo(x);
        x.keep(1);
        x.put(2, NONE);
        x.drift(9);
        int[] last = whatIsSo(x);
        Check.yes("the three differ", !Arrays.equals(atFirst, later) && !Arrays.equals(later, last));
        for (int round = 0; round < 3; round++) {
            x.goBack(1);
            same("back to 1", whatIsSo(x), later);
            x.drift(9);
            same("and on as then", whatIsSo(x), last);
            x.goBack(0);
            same("back to 0", whatIsSo(x), atFirst);
            x.cross(0);
            x.seed(5);
            x.rest(1);
        }
    }

    private static void whatAnImageLeaves() {
        Check.about("IMAGES keep no TIMES TOLD, no text, no fault");
        OatFerry x = Check.ferry("belt sum 2 50;horse 10 30 2;horse 5 40 3;");
        x.keep(0);
        x.tell(0, 1, NONE, 0, 9);
        x.tell(0, NONE, NONE, 0, 5);
        Check.feed(x, "belt sum 9");
        x.ferry();
        Check.feed(x, "belt sum ");
        x.goBack(0);
        Check.due("times told", x.told(10), 2);
        Check.due("the first is wrong still", x.judge(), 0);
        Check.due("the text", x.told(6), 9);
        Check.due("the fault", x.fault(), 9);
        x.tear();
        x.keep(1);
        x.tell(0, 1, NONE, 0, 9);
        x.goBack(1);
        Check.due("times told", x.told(10), 1);
    }

    private static void anImageIsKeptAnew() {
        Check.about("IMAGE i becomes what is so; What is so becomes IMAGE i");
        OatFerry x = Check.ferry("belt sum 2 50;horse 10 30 2;");
        x.keep(0);
        x.rest(1);
        x.keep(1);
        x.rest(1);
        x.keep(0);
        x.rest(1);
        Check.due("goBack(1)", x.goBack(1), 1);
        Check.due("told(7)", x.told(7), 1);
        Check.due("goBack(0)", x.goBack(0), 1);
        Check.due("told(7)", x.told(7), 2);
        Check.due("goBack(0) again", x.goBack(0), 1);
        Check.due("told(7)", x.told(7), 2);
        Check.about("a faulty ferry() leaves IMAGES, a ferry() does not");
        x.feed(1, 'x');
        Check.due("ferry()", x.ferry(), -11);
        Check.due("goBack(1)", x.goBack(1), 1);
        Check.due("told(7)", x.told(7), 1);
        Check.feed(x, "belt sum 2 50;horse 10 30 2;");
        x.ferry();
        Check.each("goBack", x::goBack, NOT, 0, 1);
        x.keep(0);
        Check.due("the other is not there again", x.goBack(1), NOT);
    }
}
