/** Promises 21 to 25: times told, pulls, shams, logs judged. */
public final class TimesTest {
    private static final int UNKNOWN = OatFerry.UNKNOWN, OUTSIDE = OatFerry.OUTSIDE, NOT = OatFerry.NOT, FULL = OatFerry.FULL;
    private static final int ALL_PULLS = (1 << 30) - 1;
    private static final String TEXT = "belt sum 2 20;horse 10 9 0;horse 5 9 0;tide 20,30;";

    public static void main(String[] args) {
        telling();
        nothingTold();
        pullsAndShams();
        fromFullStrength();
        moodsAndBlindOnes();
        missedOnes();
        Check.end();
    }

    private static void telling() {
        OatFerry x = Check.ferry(TEXT);
        Check.due("one twice", x.tell(0, 0, -1, 0, 0), UNKNOWN);
        Check.due("a horse that is not", x.tell(2, -1, -1, 0, 0), UNKNOWN);
        Check.due("below NONE", x.tell(0, -2, -1, 0, 0), UNKNOWN);
        Check.due("a place that is not", x.tell(-1, -1, 0, 0, 0), UNKNOWN);
        Check.due("UNKNOWN first", x.tell(0, 1, 1, 100, 121), UNKNOWN);
        Check.due("hour 100", x.tell(0, -1, -1, 100, 1), OUTSIDE);
        Check.due("hour -1", x.tell(0, -1, -1, -1, 1), OUTSIDE);
        Check.due("minutes 121", x.tell(0, -1, -1, 0, 121), OUTSIDE);
        Check.due("minutes -1", x.tell(0, -1, -1, 0, -1), OUTSIDE);
        Check.due("OUTSIDE ahead of NOT", x.tell(-1, -1, -1, 100, 0), OUTSIDE);
        Check.due("nobody", x.tell(-1, -1, -1, 0, 0), NOT);
        Check.due("nothing told", x.told(10), 0);
        for (int i = 1; i <= 10; i++) {
            Check.due("tell " + i, x.tell(-1, i % 2, -1, 99, 120), i);
        }
        Check.due("an eleventh", x.tell(0, -1, -1, 0, 0), FULL);
        Check.due("NOT ahead of FULL", x.tell(-1, -1, -1, 0, 0), NOT);
        Check.due("told(10)", x.told(10), 10);
        Check.due("tear()", x.tear(), 10);
        Check.due("tear()", x.tear(), 0);
        Check.due("told(10)", x.told(10), 0);
        Check.due("a third place", Check.ferry("belt sum 3 9;horse 1 1 1;").tell(-1, -1, 0, 0, 0), 1);
        Check.due("new: a horse", new OatFerry().tell(0, -1, -1, 0, 0), UNKNOWN);
        Check.due("new: nobody", new OatFerry().tell(-1, -1, -1, 0, 0), NOT);
    }

    private static void nothingTold() {
        OatFerry x = Check.ferry(TEXT);
        Check.due("judge()", x.judge(), -1);
        Check.due("sham(): all fit", x.sham(), 3);
        Check.due("pulls(0): all fit", x.pulls(0), ALL_PULLS);
        Check.due("pulls(2)", x.pulls(2), UNKNOWN);
        Check.due("pulls(-1)", x.pulls(-1), UNKNOWN);
        Check.due("new: sham()", new OatFerry().sham(), 0);
        Check.due("new: pulls(0)", new OatFerry().pulls(0), UNKNOWN);
    }

    private static void pullsAndShams() {
        OatFerry x = Check.ferry(TEXT);
        x.tell(0, -1, -1, 0, 2);
        Check.due("as it is", x.judge(), -1);
        Check.due("10 .. 19", x.pulls(0), (1 << 19) - (1 << 9));
        Check.due("it did not stand", x.pulls(1), ALL_PULLS);
        Check.due("who did not stand may sham", x.sham(), 2);
        x.tell(0, -1, -1, 1, 1);
        Check.due("with the tide", x.judge(), -1);
        Check.due("both times", x.pulls(0), (1 << 19) - (1 << 9));
        x.tell(0, -1, -1, 0, 4);
        Check.due("the third is otherwise", x.judge(), 2);
        Check.due("no pull", x.pulls(0), 0);
        Check.due("nor another's", x.pulls(1), 0);
        Check.due("no sham", x.sham(), 0);
        x.tear();
        x.tell(0, -1, -1, 0, 4);
        x.tell(-1, 1, -1, 0, 4);
        Check.due("the first is otherwise", x.judge(), 0);
        Check.due("it shams", x.sham(), 1);
        Check.due("5 and 6", x.pulls(0), 48);
        Check.due("the other's pull mends nothing", x.pulls(1), 0);
        x.tear();
        x.tell(0, 1, -1, 0, 2);
        Check.due("15 a minute", x.judge(), -1);
        Check.due("either may sham: 10 and 12 a minute", x.sham(), 3);
        Check.due("5 .. 14", x.pulls(0), (1 << 14) - (1 << 4));
        Check.due("1 .. 9", x.pulls(1), (1 << 9) - 1);
    }

    private static void fromFullStrength() {
        OatFerry x = Check.ferry("belt sum 1 20;horse 10 2 0;");
        x.put(0, 0);
        x.cross(100);
        Check.due("lame", x.told(12), 1);
        x.tell(0, -1, -1, 0, 2);
        Check.due("from full strength, no load", x.judge(), -1);
        x.tear();
        x.tell(0, -1, -1, 0, 0);
        Check.due("missed, it is told", x.judge(), 0);
        Check.due("too weak by 9", x.pulls(0), (1 << 9) - 1);
        Check.due("by half", x.sham(), 1);
    }

    private static void moodsAndBlindOnes() {
        OatFerry x = Check.ferry("belt slowest 3 30;horse 7 99 0;horse 5 99 0;horse 9 99 0;beside 0 1 0;beside 1 0 8;"
                + "beside 1 2 3;beside 2 1 0;blind 2;");
        x.tell(0, 1, 2, 0, 5);
        Check.due("2, 6, 9: three times 2", x.judge(), -1);
        Check.due("5 less: 7 alone", x.pulls(0), 1 << 6);
        Check.due("the others are not the least", x.sham(), 6);
        Check.due("a blind one pulls P", x.pulls(2), ALL_PULLS - 1);
        Check.due("one more", x.pulls(1), ALL_PULLS);
        x.tear();
        x.tell(-1, 1, 2, 0, 4);
        Check.due("3, 9: twice 3 is 5 minutes", x.judge(), 0);
        Check.due("twice 4", x.sham(), 0);
        Check.due("4 and 2 less", x.pulls(1), 1 << 5);
        x.tear();
        x.tell(0, 1, -1, 0, 15);
        Check.due("half of 2", x.sham(), 1);
    }

    private static void missedOnes() {
        OatFerry x = Check.ferry("belt sum 1 120;horse 2 200 0;tide 0,20;");
        x.tell(0, -1, -1, 98, 0);
        Check.due("against the tide", x.judge(), -1);
        x.tell(0, -1, -1, 99, 60);
        Check.due("at slack", x.judge(), -1);
        Check.due("2 alone", x.pulls(0), 2);
        x.tear();
        x.tell(0, -1, -1, 1, 120);
        Check.due("in the last minute by half", x.sham(), 1);
        Check.due("1 alone", x.pulls(0), 1);
    }
}
