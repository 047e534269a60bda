/** TIMES TOLD of part 3, promises 21 to 25: each sentence that names an edge. */
public final class TimesEdgesTest {
    private static final int NONE = OatFerry.NONE, UNKNOWN = OatFerry.UNKNOWN, OUTSIDE = OatFerry.OUTSIDE;
    private static final int NOT = OatFerry.NOT, FULL = OatFerry.FULL;
    private static final int LEAST = Integer.MIN_VALUE, MOST = Integer.MAX_VALUE, ALL_PULLS = (1 << 30) - 1;

    public static void main(String[] args) {
        whoIsTold();
        placesThatThereAreNot();
        hoursAndMinutes();
        nobodyStands();
        tenAtMost();
        theOrderOfRefusals();
        tearing();
        eachPull();
        pullsBounds();
        pullsWithMoods();
        halfCut();
        halfOfWhatItWould();
        eachAlone();
        everyoneMaySham();
        theFirstThatIsOtherwise();
        missedOnes();
        fromFullStrength();
        itsOwnHour();
        Check.end();
    }

    private static void whoIsTold() {
        Check.about("tell: UNKNOWN (one twice)");
        OatFerry x = Check.ferry("belt sum 3 20;horse 10 9 0;horse 5 9 0;");
        Check.each("first", h -> x.tell(h, NONE, NONE, 0, 0), UNKNOWN, -2, 2, 6, LEAST, MOST);
        Check.each("second", h -> x.tell(NONE, h, NONE, 0, 0), UNKNOWN, -2, 2, 6, LEAST, MOST);
        Check.each("third", h -> x.tell(NONE, NONE, h, 0, 0), UNKNOWN, -2, 2, 6, LEAST, MOST);
        for (int h = 0; h < 2; h++) {
            Check.due("first and second", x.tell(h, h, NONE, 0, 0), UNKNOWN);
            Check.due("first and third", x.tell(h, NONE, h, 0, 0), UNKNOWN);
            Check.due("second and third", x.tell(NONE, h, h, 0, 0), UNKNOWN);
            Check.due("with another between", x.tell(h, 1 - h, h, 0, 0), UNKNOWN);
        }
        Check.due("nothing told", x.told(10), 0);
        Check.due("the first horse", x.tell(0, NONE, NONE, 0, 0), 1);
        Check.due("the last horse", x.tell(NONE, 1, NONE, 0, 0), 2);
        Check.due("nobody twice is fine", x.tell(NONE, NONE, 1, 0, 0), 3);
        Check.due("two", x.tell(1, NONE, 0, 0, 0), 4);
    }

    private static void placesThatThereAreNot() {
        Check.about("NONE: nobody; of PLACES that there are not it must be");
        OatFerry one = Check.ferry("belt sum 1 20;horse 10 9 0;horse 5 9 0;");
        Check.due("second of one", one.tell(NONE, 1, NONE, 0, 0), UNKNOWN);
        Check.due("second of one", one.tell(0, 1, NONE, 0, 0), UNKNOWN);
        Check.due("third of one", one.tell(0, NONE, 1, 0, 0), UNKNOWN);
        Check.due("first of one", one.tell(1, NONE, NONE, 0, 0), 1);
        OatFerry two = Check.ferry("belt sum 2 20;horse 10 9 0;horse 5 9 0;");
        Check.due("third of two", two.tell(0, NONE, 1, 0, 0), UNKNOWN);
        Check.due("third of two", two.tell(NONE, NONE, 1, 0, 0), UNKNOWN);
        Check.due("second of two", two.tell(0, 1, NONE, 0, 0), 1);
        Check.due("third of three", Check.ferry("belt sum 3 20;horse 10 9 0;").tell(NONE, NONE, 0, 0, 0), 1);
        Check.due("no places", new OatFerry().tell(0, NONE, NONE, 0, 0), UNKNOWN);
    }

    private static void hoursAndMinutes() {
        Check.about("an hour (0 .. 99), minutes (0 .. 120): how many. OUTSIDE");
        OatFerry x = Check.ferry("belt sum 1 20;horse 10 9 0;");
        Check.each("hour", hour -> x.tell(0, NONE, NONE, hour, 1), OUTSIDE, -1, 100, LEAST, MOST);
        Check.each("minutes", minutes -> x.tell(0, NONE, NONE, 0, minutes), OUTSIDE, -1, 121, LEAST, MOST);
        Check.due("nothing told", x.told(10), 0);
        Check.due("hour 0, minutes 0", x.tell(0, NONE, NONE, 0, 0), 1);
        Check.due("hour 99", x.tell(0, NONE, NONE, 99, 1), 2);
        Check.due("minutes 120", x.tell(0, NONE, NONE, 1, 120), 3);
        Check.due("both", x.tell(0, NONE, NONE, 99, 120), 4);
        Check.due("told(10)", x.told(10), 4);
    }

    private static void nobodyStands() {
        Check.about("NOT: nobody stands");
        for (int places = 1; places <= 3; places++) {
            OatFerry x = Check.ferry("belt sum " + places + " 20;horse 10 9 0;");
            Check.due("tell", x.tell(NONE, NONE, NONE, 0, 0), NOT);
            Check.due("nothing told", x.told(10), 0);
        }
        Check.due("no ferry", new OatFerry().tell(NONE, NONE, NONE, 0, 0), NOT);
        Check.due("no horses", Check.ferry("belt sum 1 20;").tell(NONE, NONE, NONE, 99, 120), NOT);
    }

    private static void tenAtMost() {
        Check.about("TIMES TOLD (10 at most), FULL (10)");
        OatFerry x = Check.ferry("belt sum 1 20;horse 10 9 0;");
        for (int round = 0; round < 3; round++) {
            for (int i = 1; i <= 10; i++) {
                Check.due("tell " + i, x.tell(0, NONE, NONE, i, i == 10 ? 3 : 2), i);
                Check.due("told(10)", x.told(10), i);
            }
            Check.due("an eleventh", x.tell(0, NONE, NONE, 0, 2), FULL);
            Check.due("told(10)", x.told(10), 10);
            Check.due("the tenth is wrong still", x.judge(), 9);
            Check.due("tear()", x.tear(), 10);
        }
    }

    private static void theOrderOfRefusals() {
        Check.about("REFUSALS, of several the first in this order");
        OatFerry x = Check.ferry("belt sum 2 20;horse 10 9 0;");
        for (int round = 0; round < 2; round++) {
            Check.due("UNKNOWN, OUTSIDE", x.tell(1, NONE, NONE, 100, 121), UNKNOWN);
            Check.due("UNKNOWN, OUTSIDE", x.tell(0, 0, NONE, -1, 0), UNKNOWN);
            Check.due("UNKNOWN alone", x.tell(NONE, NONE, 0, 0, 0), UNKNOWN);
            Check.due("OUTSIDE, NOT", x.tell(NONE, NONE, NONE, 100, 0), OUTSIDE);
            Check.due("OUTSIDE, NOT", x.tell(NONE, NONE, NONE, 0, 121), OUTSIDE);
            Check.due("OUTSIDE alone", x.tell(0, NONE, NONE, 100, 0), OUTSIDE);
            Check.due("NOT alone", x.tell(NONE, NONE, NONE, 0, 0), NOT);
            // Behind this, FULL comes last to all of them.
            for (int i = 0; i < 10; i++) {
                x.tell(0, NONE, NONE, 0, 2);
            }
        }
        Check.due("FULL alone", x.tell(0, NONE, NONE, 0, 2), FULL);
    }

    private static void tearing() {
        Check.about("No TIMES TOLD: how many there were");
        OatFerry x = Check.ferry("belt sum 1 20;horse 10 9 0;");
        Check.due("none", x.tear(), 0);
        x.tell(0, NONE, NONE, 0, 9);
        Check.due("judge()", x.judge(), 0);
        Check.due("one", x.tear(), 1);
        Check.due("told(10)", x.told(10), 0);
        Check.due("judge()", x.judge(), NONE);
        Check.due("pulls(0)", x.pulls(0), ALL_PULLS);
        Check.due("none again", x.tear(), 0);
        Check.due("no ferry", new OatFerry().tear(), 0);
    }

    private static int minutes(int broad, int pace) {
        int m = pace <= 0 ? 121 : (broad + pace - 1) / pace;
        return m > 120 ? 0 : m;
    }

    /** By two tides each pull has times of its own. */
    private static void eachPull() {
        Check.about("P of 1 to 30 by which all TIMES TOLD are so (a SET, bit P less 1 for P)");
        for (int pull = 1; pull <= 30; pull++) {
            OatFerry x = Check.ferry("belt sum 1 870;horse 15 200 0;tide 20,40;");
            x.tell(0, NONE, NONE, 0, minutes(870, pull));
            x.tell(0, NONE, NONE, 1, minutes(870, pull + 20));
            Check.due("pulls(0) of " + pull, x.pulls(0), 1 << (pull - 1));
            Check.due("judge() of " + pull, x.judge(), pull == 15 ? NONE : minutes(870, pull) == minutes(870, 15) ? 1 : 0);
        }
        OatFerry none = Check.ferry("belt sum 1 870;horse 15 200 0;tide 40;");
        none.tell(0, NONE, NONE, 0, minutes(870, 20));
        Check.due("by 0 alone: none", none.pulls(0), 0);
        OatFerry more = Check.ferry("belt sum 1 870;horse 15 200 0;tide 20;");
        more.tell(0, NONE, NONE, 0, minutes(870, 31));
        Check.due("by 30 and 31", minutes(870, 31) == minutes(870, 30) ? 1 << 29 : 0, more.pulls(0));
        OatFerry far = Check.ferry("belt sum 1 999;horse 15 200 0;tide 20;");
        far.tell(0, NONE, NONE, 0, minutes(999, 31));
        Check.due("by 31 alone: none", far.pulls(0), 0);
    }

    private static void pullsBounds() {
        Check.about("pulls: the SET. UNKNOWN");
        OatFerry x = Check.ferry("belt sum 1 20;horse 10 9 0;horse 5 9 0;");
        Check.each("pulls", x::pulls, UNKNOWN, -1, 2, 6, LEAST, MOST);
        Check.each("all: pulls", x::pulls, ALL_PULLS, 0, 1);
        x.tell(0, NONE, NONE, 0, 2);
        Check.due("10 .. 19", x.pulls(0), (1 << 19) - (1 << 9));
        Check.due("it did not stand", x.pulls(1), ALL_PULLS);
        Check.due("P is as told", x.horse(0, 0), 10);
        x.tell(NONE, NONE, NONE, 0, 2);
        x.tell(0, NONE, NONE, 0, 1);
        Check.due("one of two is otherwise for each", x.pulls(0), 0);
        Check.due("it did not stand, all are not so", x.pulls(1), 0);
        Check.each("no ferry: pulls", new OatFerry()::pulls, UNKNOWN, -1, 0);
    }

    private static void pullsWithMoods() {
        Check.about("PULLS: P and its moods, 0 at least; a blind one pulls P always");
        String belt = "belt sum 2 60;horse 9 200 0;horse 10 200 0;beside 0 1 0;";
        OatFerry x = Check.ferry(belt);
        x.tell(0, 1, NONE, 0, 6);
        Check.due("nothing at most: 1 .. 5, and 1 more", x.pulls(0), (1 << 6) - 1);
        for (int other = 0; other < 3; other++) {
            // Where it stands, ahead or behind, the mood is the same; not next to it, it has none.
            OatFerry y = Check.ferry("belt sum 3 60;horse 9 200 0;horse 10 200 0;beside 0 1 8;");
            int[] who = {NONE, NONE, NONE};
            who[other] = 1;
            who[(other + 1) % 3] = 0;
            y.tell(who[0], who[1], who[2], 0, 3);
            int mood = other == 2 ? 0 : 3;
            Check.due("20 .. 29 together, the other at " + other, y.pulls(0), (1 << 19 - mood) - (1 << 9 - mood));
            y.tear();
            who[other] = 0;
            who[(other + 1) % 3] = 1;
            y.tell(who[0], who[1], who[2], 0, 3);
            Check.due("20 .. 29 together, it at " + other, y.pulls(0), (1 << 19 - mood) - (1 << 9 - mood));
        }
        OatFerry blind = Check.ferry(belt + "blind 0;");
        blind.tell(0, 1, NONE, 0, 6);
        Check.due("1 alone", blind.pulls(0), 1);
        blind.tear();
        blind.tell(0, 1, NONE, 0, 4);
        Check.due("5 .. 9", blind.pulls(0), (1 << 9) - (1 << 4));
    }

    private static void halfCut() {
        Check.about("SHAM: pulling only half (cut) of what it would");
        for (int pull = 1; pull <= 30; pull++) {
            OatFerry x = Check.ferry("belt sum 1 999;horse " + pull + " 200 0;tide 40;");
            for (int half = 0; half <= pull; half++) {
                x.tell(0, NONE, NONE, 0, minutes(999, 20 + half));
                boolean so = minutes(999, 20 + half) == minutes(999, 20 + pull / 2);
                Check.due("sham() of " + pull + " by " + half, x.sham(), so ? 1 : 0);
                x.tear();
            }
        }
    }

    private static void halfOfWhatItWould() {
        Check.about("half of what it would");
        OatFerry x = Check.ferry("belt sum 2 90;horse 4 200 0;horse 11 200 0;beside 0 1 10;");
        x.tell(0, 1, NONE, 0, 6);
        Check.due("4 and 5 more: half of it is 4, with 11", x.sham(), 1);
        x.tell(0, NONE, NONE, 0, 45);
        Check.due("alone: half of 4", x.sham(), 1);
        x.tell(0, 1, NONE, 0, 5);
        Check.due("once as it would, once by half: none", x.sham(), 0);
        OatFerry least = Check.ferry("belt sum 2 40;horse 3 200 0;horse 10 200 0;beside 0 1 0;");
        least.tell(0, 1, NONE, 0, 4);
        Check.due("half of nothing is nothing", least.sham(), 1);
        Check.due("as it is", least.judge(), NONE);
        OatFerry blind = Check.ferry("belt sum 2 48;horse 9 200 0;horse 12 200 0;beside 0 1 0;blind 0;");
        blind.tell(0, 1, NONE, 0, 3);
        Check.due("half of a blind one's 9", blind.sham(), 1);
        OatFerry slowest = Check.ferry("belt slowest 2 40;horse 9 200 0;horse 10 200 0;");
        slowest.tell(0, 1, NONE, 0, 5);
        Check.due("half of 9, twice, are 5 minutes", slowest.sham(), 1);
        slowest.tear();
        slowest.tell(0, 1, NONE, 0, 4);
        Check.due("half of 10, twice, are 4 minutes", slowest.sham(), 2);
    }

    private static void eachAlone() {
        Check.about("HORSES (a SET) of whom each alone makes them so");
        OatFerry x = Check.ferry("belt sum 2 40;horse 20 200 0;horse 20 200 0;horse 5 200 0;");
        x.tell(0, 1, NONE, 0, 2);
        Check.due("either; the third did not stand, but 40 are one minute", x.sham(), 3);
        x.tell(0, NONE, NONE, 0, 4);
        Check.due("then 0 alone", x.sham(), 1);
        x.tell(NONE, 1, NONE, 0, 4);
        Check.due("both would have to: none", x.sham(), 0);
    }

    private static void everyoneMaySham() {
        Check.about("sham: the SET");
        for (int horses = 0; horses <= 6; horses++) {
            OatFerry x = Check.ferry("belt sum 1 20;" + "horse 10 9 0;".repeat(horses));
            Check.due("nothing told, " + horses + " horses", x.sham(), (1 << horses) - 1);
        }
        OatFerry x = Check.ferry("belt sum 1 20;" + "horse 10 9 0;".repeat(6));
        x.tell(5, NONE, NONE, 0, 4);
        Check.due("the last", x.sham(), 32);
        x.tear();
        x.tell(5, NONE, NONE, 0, 2);
        Check.due("all but the last", x.sham(), 31);
        Check.due("no ferry", new OatFerry().sham(), 0);
    }

    private static void theFirstThatIsOtherwise() {
        Check.about("WRONG: the first TIME TOLD that is otherwise; NONE");
        Check.due("no ferry", new OatFerry().judge(), NONE);
        for (int wrong = 0; wrong < 10; wrong++) {
            OatFerry x = Check.ferry("belt sum 1 20;horse 10 9 0;");
            Check.due("nothing told", x.judge(), NONE);
            for (int i = 0; i < 10; i++) {
                x.tell(0, NONE, NONE, i, i < wrong ? 2 : i % 2 == 0 ? 1 : 3);
                Check.due(wrong + " is wrong, " + (i + 1) + " are told", x.judge(), i < wrong ? NONE : wrong);
            }
        }
    }

    private static void missedOnes() {
        Check.about("the minutes (0: MISSED)");
        for (int broad = 119; broad <= 122; broad++) {
            OatFerry x = Check.ferry("belt sum 1 " + broad + ";horse 1 200 0;");
            for (int told : new int[] {0, 1, 119, 120}) {
                x.tell(0, NONE, NONE, 0, told);
                boolean so = told == (broad <= 120 ? broad : 0);
                Check.due(told + " told of " + broad, x.judge(), so ? NONE : 0);
                x.tear();
            }
        }
    }

    private static void fromFullStrength() {
        Check.about("each from full STRENGTH, no LOAD");
        OatFerry x = Check.ferry("belt sum 1 20;horse 10 2 0;");
        x.put(0, 0);
        x.cross(240);
        Check.due("lame now", x.told(12), 1);
        for (int i = 0; i < 5; i++) {
            x.tell(0, NONE, NONE, i, 2);
        }
        Check.due("not one behind the other", x.judge(), NONE);
        Check.due("10 .. 19", x.pulls(0), (1 << 19) - (1 << 9));
        x.tear();
        x.tell(0, NONE, NONE, 0, 0);
        Check.due("half of it is too little for two minutes", x.sham(), 1);
        Check.due("still lame", x.told(12), 1);
        Check.due("nothing eaten by it", x.told(8), 20);
        Check.due("nor missed", x.told(9), 1);
        Check.due("the hour", x.told(7), 1);
    }

    private static void itsOwnHour() {
        Check.about("TIMES TOLD: HORSES at PLACES, an hour");
        OatFerry x = Check.ferry("belt sum 3 40;horse 10 99 0;horse 10 99 0;beside 0 1 10;tide 20,21,22,23,24,25,30;");
        x.rest(6);
        x.tell(0, NONE, NONE, 0, 4);
        x.tell(0, NONE, NONE, 6, 2);
        x.tell(0, NONE, NONE, 99, 4);
        x.tell(0, NONE, NONE, 97, 2);
        Check.due("the tide of its hour, that comes round", x.judge(), NONE);
        x.tell(0, 1, NONE, 0, 2);
        x.tell(NONE, 1, 0, 0, 2);
        x.tell(0, NONE, 1, 0, 2);
        Check.due("beside one another, or not", x.judge(), NONE);
        x.tell(0, NONE, 1, 3, 2);
        x.tell(0, 1, NONE, 5, 2);
        x.tell(0, 1, NONE, 6, 1);
        Check.due("the tenth: 35 a minute", x.judge(), 9);
    }
}
