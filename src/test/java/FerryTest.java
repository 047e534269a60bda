/** Promises 1 to 8: a new object, the text and its faults, what was told. */
public final class FerryTest {
    private static final int UNKNOWN = OatFerry.UNKNOWN, OUTSIDE = OatFerry.OUTSIDE, FULL = OatFerry.FULL;
    private static final String BELT = "belt sum 2 100;";

    public static void main(String[] args) {
        newObject();
        feeding();
        goodTexts();
        faultsOne();
        faultsTwo();
        faultsThreeAndFour();
        whatAFerryBegins();
        whatWasTold();
        horses();
        Check.end();
    }

    private static void newObject() {
        int[] due = {0, -1, 0, 0, 0, 60, 0, 0, 0, 0, 0, 0, 0};
        OatFerry x = new OatFerry();
        for (int what = 0; what < due.length; what++) {
            Check.due("new: told(" + what + ")", x.told(what), due[what]);
        }
        Check.due("new: fault()", x.fault(), -1);
        Check.due("new: horse(0, 0)", x.horse(0, 0), UNKNOWN);
        Check.due("new: at(0)", x.at(0), UNKNOWN);
        Check.due("new: seed(5)", x.seed(5), 0);
        Check.due("new: goBack(0)", x.goBack(0), OatFerry.NOT);
    }

    private static void feeding() {
        OatFerry x = new OatFerry();
        Check.due("feed(0)", x.feed(0, 0), OUTSIDE);
        Check.due("feed(9)", x.feed(9, 0), OUTSIDE);
        Check.due("feed(-1)", x.feed(-1, 0), OUTSIDE);
        Check.due("feed(1) takes the lowest byte alone", x.feed(1, 0x4141414141414162L), 1);
        Check.due("feed(3)", x.feed(3, 0xff656c74L), 4);
        Check.due("told(6)", x.told(6), 4);
        Check.feed(x, " sum 1 1;");
        Check.due("ferry() of bytes fed highest first", x.ferry(), 1);
        Check.due("told(6) is empty then", x.told(6), 0);
        for (int i = 1; i <= 62; i++) {
            Check.due("feed " + i, x.feed(8, -1L), 8 * i);
        }
        Check.due("feed beyond 500", x.feed(5, 0), FULL);
        Check.due("told(6) unchanged", x.told(6), 496);
        Check.due("feed up to 500", x.feed(4, 0), 500);
        Check.due("feed at 500", x.feed(1, 0), FULL);
        Check.due("OUTSIDE ahead of FULL", x.feed(9, 0), OUTSIDE);
        Check.due("byte 255 cannot stand", x.ferry(), -11);
        Check.due("at 0", x.fault(), 0);
    }

    private static void bad(String text, int fault, int where) {
        OatFerry x = new OatFerry();
        Check.feed(x, text);
        Check.due("ferry() of '" + text + "'", x.ferry(), -10 - fault);
        Check.due("fault() of '" + text + "'", x.fault(), where);
    }

    private static void goodTexts() {
        Check.good("", 0);
        Check.good("   ", 0);
        Check.good("belt slowest 3 999;", 3);
        Check.good("  belt  sum1 1 ;  ", 1);
        Check.good("belt sum 001 099;", 1);
        Check.good(BELT + "horse30 200 60;horse 1 1 0;blind1;blind 0;beside 0 1 10;beside 1 0 0;", 2);
        Check.good(BELT + "tide 0 , 40,20,1,2,3,4,5,6,7,8,9;cart 0;cart 60;cart 1;cart 2;due 120;", 2);
        Check.good("belt sum 2 1;due 1;", 2);
        Check.good(BELT + "horse 1 1 1;".repeat(6), 2);
    }

    private static void faultsOne() {
        bad("tide 1;", 1, 0);
        bad("  horse 1 1 1;", 1, 2);
        bad("beltsum 1 1;", 1, 0);
        bad("xelt sum 1 1;", 1, 0);
        bad("belt sumz 1 1;", 1, 5);
        bad("belt asum 1 1;", 1, 5);
        bad("belt", 1, 4);
        bad("belt ", 1, 5);
        bad("belt 1", 1, 5);
        bad("belt slow 1 1;", 1, 5);
        bad("belt sumslowest 1 1;", 1, 5);
        bad("belt sum;", 1, 8);
        bad("belt sum x 1;", 1, 9);
        bad("belt sum 1,1;", 1, 10);
        bad("belt sum 1 1", 1, 12);
        bad("belt sum 1 1   ", 1, 15);
        bad("belt sum 1 1 1;", 1, 13);
        bad("belt sum 1 1;;", 1, 13);
        bad("belt sum 1 1;7;", 1, 13);
        bad("belt sum 1 1;7777;", 1, 13);
        bad("belt sum 1 1;Horse 1 1 1;", 1, 13);
        bad("belt sum 1 1;\thorse 1 1 1;", 1, 13);
        bad("belt sum 1 1;horses 1 1 1;", 1, 13);
        bad("belt sum 1 1;hors", 1, 13);
        bad("belt sum 1a 1;", 1, 10);
        bad("belt sum -1 1;", 1, 9);
        bad("Belt sum 1 1;", 1, 0);
        bad(BELT + "tide;", 1, 19);
        bad(BELT + "tide 1,;", 1, 22);
        bad(BELT + "tide ,1;", 1, 20);
        bad(BELT + "tide 1 1;", 1, 22);
        bad(BELT + "tide 0,0,0,0,0,0,0,0,0,0,0,0 ,0;", 1, 44);
        bad(BELT + "tide 0,0,0,0,0,0,0,0,0,0,0,0,9999;", 1, 43);
    }

    private static void faultsTwo() {
        bad("belt sum 0 1;", 2, 9);
        bad("belt sum 4 1;", 2, 9);
        bad("belt sum 0001 1;", 2, 9);
        bad("belt sum 1 0;", 2, 11);
        bad("belt sum 1 1000;", 2, 11);
        bad("belt sum 1 " + "1".repeat(400) + ";", 2, 11);
        bad("belt sum 9x", 2, 9);
        bad(BELT + "horse 0 1 1;", 2, 21);
        bad(BELT + "horse 31 1 1;", 2, 21);
        bad(BELT + "horse 1 0 1;", 2, 23);
        bad(BELT + "horse 1 201 1;", 2, 23);
        bad(BELT + "horse 1 1 61;", 2, 25);
        bad(BELT + "tide 41;", 2, 20);
        bad(BELT + "tide 0,41;", 2, 22);
        bad(BELT + "cart 61;", 2, 20);
        bad(BELT + "due 0;", 2, 19);
        bad(BELT + "due 121;", 2, 19);
        bad(BELT + "blind 0;", 2, 21);
        bad(BELT + "horse 1 1 1;blind 1;horse 1 1 1;", 2, 33);
        bad(BELT + "horse 1 1 1;beside 1 1 0;", 2, 34);
        bad(BELT + "horse 1 1 1;beside 0 1 0;", 2, 36);
        bad(BELT + "horse 1 1 1;horse 1 1 1;beside 0 1 11;", 2, 50);
    }

    private static void faultsThreeAndFour() {
        String two = BELT + "horse 1 1 1;horse 1 1 1;";
        bad("belt sum 1 1; belt", 3, 14);
        bad(BELT + "tide 1;tide 1;", 3, 22);
        bad(BELT + "due 1;due", 3, 21);
        bad(BELT + "horse 1 1 1;".repeat(6) + " horse 1 1 1;", 3, 88);
        bad(BELT + "cart 1;".repeat(4) + "cart 1;", 3, 43);
        bad(two + "blind 0;blind 0", 4, 53);
        bad(two + "beside 0 0 0;", 4, 48);
        bad(two + "beside 1 0 0;beside 0 1 0;beside 1 0 0;", 4, 74);
        bad(two + "beside 1 0 0;beside 1 0 99;", 4, 61);
        bad(two + "beside 0 1 0;beside 0 1 0;", 4, 61);
        StringBuilder many = new StringBuilder(BELT + "horse 1 1 1;".repeat(6));
        for (int i = 0; i < 12; i++) {
            many.append("beside ").append(i / 3).append(' ').append(i / 3 == i % 3 ? 5 : i % 3).append(" 5;");
        }
        Check.good(many.toString(), 2);
        bad(many + "beside 0 0 0;", 3, many.length());
    }

    private static void whatAFerryBegins() {
        OatFerry x = Check.ferry(BELT + "horse 10 20 5;horse 5 9 1;tide 20,30;due 7;cart 3;");
        x.put(0, 0);
        x.cross(200);
        x.tell(0, -1, -1, 0, 1);
        x.keep(0);
        x.seed(99);
        Check.feed(x, "belt sum 9 1;");
        Check.due("a faulty ferry()", x.ferry(), -12);
        Check.due("its byte", x.fault(), 9);
        int[] asWas = {2, 0, 100, 2, 1, 7, 0, 1, 200, 1, 1, 10, 1};
        for (int what = 0; what < asWas.length; what++) {
            Check.due("behind a fault: told(" + what + ")", x.told(what), asWas[what]);
        }
        Check.due("behind a fault: at(0)", x.at(0), 0);
        Check.due("behind a fault: the image is there", x.goBack(0), 1);
        x.seed(99);
        Check.feed(x, "belt slowest 1 50;horse 2 3 4;");
        Check.due("a good ferry()", x.ferry(), 1);
        Check.due("no fault", x.fault(), -1);
        int[] begun = {1, 1, 50, 1, 0, 60, 0, 0, 0, 0, 0, 0, 0};
        for (int what = 0; what < begun.length; what++) {
            Check.due("a new ferry: told(" + what + ")", x.told(what), begun[what]);
        }
        Check.due("nobody stands", x.at(0), -1);
        Check.due("full strength", x.horse(0, 4), 3);
        Check.due("images are gone", x.goBack(0), OatFerry.NOT);
        Check.due("the seed stays", x.seed(0), 99);
        Check.due("an empty text", x.ferry(), 0);
        Check.due("no places", x.told(0), 0);
        Check.due("no law", x.told(1), -1);
        Check.due("no river", x.told(2), 0);
        Check.due("no horses", x.told(3), 0);
    }

    private static void whatWasTold() {
        OatFerry x = Check.ferry("belt slowest 3 321;horse 10 2 0;cart 7;cart 0;cart 60;tide 0,40,25;due 33;");
        int[] due = {3, 1, 321, 1, 3, 33, 0, 0, 0, 0, 0, -20, 0};
        for (int what = 0; what < due.length; what++) {
            Check.due("told(" + what + ")", x.told(what), due[what]);
        }
        Check.due("told(-1)", x.told(-1), OUTSIDE);
        Check.due("told(13)", x.told(13), OUTSIDE);
        x.rest(1);
        Check.due("tide of hour 1", x.told(11), 20);
        x.rest(1);
        Check.due("tide of hour 2", x.told(11), 5);
        x.rest(1);
        Check.due("tide of hour 3", x.told(11), -20);
        Check.due("cart(0)", x.cart(0), 7);
        Check.due("cart(1)", x.cart(1), 0);
        Check.due("cart(2)", x.cart(2), 60);
        Check.due("cart(3)", x.cart(3), UNKNOWN);
        Check.due("cart(-1)", x.cart(-1), UNKNOWN);
        x.put(0, 2);
        x.cross(0);
        Check.due("who is lame", x.told(12), 1);
        Check.due("missed", x.told(9), 1);
        Check.due("oats", x.told(8), 20);
    }

    private static void horses() {
        OatFerry x = Check.ferry("belt sum 3 100;horse 10 20 5;horse 3 9 1;horse 6 8 0;blind 2;"
                + "beside 0 1 9;beside 0 2 0;beside 1 0 1;beside 2 0 10;beside 1 2 5;");
        Check.due("P", x.horse(0, 0), 10);
        Check.due("S", x.horse(0, 1), 20);
        Check.due("R", x.horse(0, 2), 5);
        Check.due("sees", x.horse(0, 3), 0);
        Check.due("blind", x.horse(2, 3), 1);
        Check.due("STRENGTH", x.horse(1, 4), 9);
        Check.due("PLACE", x.horse(1, 5), -1);
        Check.due("pulls at no place", x.horse(1, 6), 0);
        Check.due("horse(3, 0)", x.horse(3, 0), UNKNOWN);
        Check.due("horse(-1, 0)", x.horse(-1, 0), UNKNOWN);
        Check.due("horse(0, 7)", x.horse(0, 7), OUTSIDE);
        Check.due("horse(0, -1)", x.horse(0, -1), OUTSIDE);
        Check.due("UNKNOWN ahead of OUTSIDE", x.horse(3, 7), UNKNOWN);
        Check.due("beside(0, 1)", x.beside(0, 1), 4);
        Check.due("beside(1, 0)", x.beside(1, 0), -4);
        Check.due("beside(1, 2), told as none", x.beside(1, 2), 0);
        Check.due("beside(2, 1), untold", x.beside(2, 1), 0);
        Check.due("beside(1, 1)", x.beside(1, 1), UNKNOWN);
        Check.due("beside(0, 3)", x.beside(0, 3), UNKNOWN);
        Check.due("beside(-1, 0)", x.beside(-1, 0), UNKNOWN);
        x.put(0, 1);
        Check.due("alone", x.horse(0, 6), 10);
        x.put(1, 0);
        Check.due("beside one", x.horse(0, 6), 14);
        Check.due("0 at least", x.horse(1, 6), 0);
        x.put(2, 2);
        Check.due("between two", x.horse(0, 6), 9);
        Check.due("a blind one", x.horse(2, 6), 6);
        x.put(0, -1);
        Check.due("not next to it", x.horse(1, 6), 3);
        x.cross(240);
        Check.due("a lame one", x.horse(1, 6), 0);
        x.put(0, 1);
        Check.due("moods beside lame ones", x.horse(0, 6), 9);
    }
}
