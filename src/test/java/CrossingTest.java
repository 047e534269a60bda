/** Promises 9 to 14: who stands where, crossings, rests, days by draws. */
public final class CrossingTest {
    private static final int UNKNOWN = OatFerry.UNKNOWN, OUTSIDE = OatFerry.OUTSIDE, NOT = OatFerry.NOT;

    public static void main(String[] args) {
        putting();
        crossingBySum();
        onBehindALameOne();
        oneByOneLame();
        crossingBySlowest();
        theLastMinute();
        theTideAlone();
        resting();
        drifting();
        Check.end();
    }

    private static void putting() {
        OatFerry x = Check.ferry("belt sum 2 30;horse 10 3 2;horse 4 50 1;");
        Check.due("at(0)", x.at(0), -1);
        Check.due("put(0, 0)", x.put(0, 0), -1);
        Check.due("put to where it is", x.put(0, 0), 0);
        Check.due("put where another is", x.put(1, 0), NOT);
        Check.due("nothing changed", x.horse(1, 5), -1);
        Check.due("put elsewhere", x.put(0, 1), 0);
        Check.due("it left its place", x.at(0), -1);
        Check.due("it is there", x.at(1), 0);
        Check.due("horse(0, 5)", x.horse(0, 5), 1);
        Check.due("put away", x.put(0, -1), 1);
        Check.due("put away again", x.put(0, -1), -1);
        Check.due("at(1)", x.at(1), -1);
        x.put(1, 0);
        Check.due("UNKNOWN ahead of NOT", x.put(2, 0), UNKNOWN);
        Check.due("put(0, 2)", x.put(0, 2), UNKNOWN);
        Check.due("put(0, -2)", x.put(0, -2), UNKNOWN);
        Check.due("put(-1, 1)", x.put(-1, 1), UNKNOWN);
        Check.due("at(2)", x.at(2), UNKNOWN);
        Check.due("at(-1)", x.at(-1), UNKNOWN);
    }

    private static void crossingBySum() {
        OatFerry x = Check.ferry("belt sum 2 30;horse 10 3 2;horse 4 50 1;tide 20,25;");
        Check.due("OUTSIDE ahead of NOT", x.cross(241), OUTSIDE);
        Check.due("cross(-1)", x.cross(-1), OUTSIDE);
        Check.due("nobody stands", x.cross(0), NOT);
        Check.due("trial, nobody stands", x.trial(0, 0), NOT);
        Check.due("trial(241, 0)", x.trial(241, 0), OUTSIDE);
        Check.due("trial(0, 2)", x.trial(0, 2), OUTSIDE);
        Check.due("trial(0, -1)", x.trial(0, -1), OUTSIDE);
        Check.due("the hour stays", x.told(7), 0);
        x.put(0, 0);
        Check.due("over by the last strength", x.trial(0, 0), 3);
        Check.due("its oats", x.trial(0, 1), 30);
        Check.due("lame too soon", x.trial(1, 0), -1);
        Check.due("oats of the missed", x.trial(1, 1), 30);
        Check.due("the most load", x.trial(240, 0), -1);
        Check.due("a trial tires nobody", x.horse(0, 4), 3);
        x.put(1, 1);
        Check.due("both", x.trial(0, 0), 3);
        Check.due("oats of both", x.trial(0, 1), 42);
        Check.due("cross(5): 9 a minute, then -1", x.cross(5), -1);
        Check.due("missed", x.told(9), 1);
        Check.due("oats: 30 and 4 in 50 minutes", x.told(8), 230);
        Check.due("both lame", x.told(12), 3);
        Check.due("an hour on", x.told(7), 1);
    }

    private static void onBehindALameOne() {
        OatFerry x = Check.ferry("belt sum 2 50;horse 10 3 0;horse 4 50 0;");
        x.put(0, 0);
        x.put(1, 1);
        Check.due("14 a minute, then 4", x.cross(0), 5);
        Check.due("its oats", x.told(8), 50);
        Check.due("the lame one", x.horse(0, 4), 0);
        Check.due("the other", x.horse(1, 4), 45);
    }

    private static void oneByOneLame() {
        OatFerry x = Check.ferry("belt sum 3 100;horse 10 2 0;horse 8 4 0;horse 6 6 0;tide 21;");
        x.put(0, 0);
        x.put(1, 1);
        x.put(2, 2);
        Check.due("25 twice, 15 twice, 7 twice, then 1 a minute: 94 in 6", x.trial(0, 0), 12);
        Check.due("its oats: 20, 32, 36", x.trial(0, 1), 88);
        Check.due("11 less: 14 twice, 4 twice, then back", x.trial(11, 0), -1);
        Check.due("12 minutes", x.cross(0), 12);
        Check.due("all are lame", x.told(12), 7);
    }

    private static void crossingBySlowest() {
        OatFerry x = Check.ferry("belt slowest 3 60;horse 10 3 0;horse 6 200 7;horse 1 90 30;tide 20,26,20;");
        x.put(0, 0);
        x.put(1, 2);
        Check.due("12 a minute until one is lame", x.trial(0, 0), -1);
        Check.due("each eats what it pulled", x.trial(0, 1), 750);
        Check.due("told(8) stays", x.told(8), 0);
        x.keep(0);
        x.rest(1);
        Check.due("18 a minute, then 6 by the tide", x.cross(0), 4);
        Check.due("told(8)", x.told(8), 54);
        Check.due("one is lame", x.told(12), 1);
        Check.due("the other walked", x.horse(1, 4), 196);
        x.goBack(0);
        Check.due("cross(0)", x.cross(0), -1);
        Check.due("told(8)", x.told(8), 750);
        Check.due("told(9)", x.told(9), 1);
        Check.due("walked for 120 minutes, no rest", x.horse(1, 4), 80);
        x.put(2, 1);
        Check.due("the least of three, one lame: the tide alone", x.trial(0, 0), 10);
        x.put(0, -1);
        Check.due("the least of two", x.trial(0, 0), 8);
    }

    private static void theLastMinute() {
        OatFerry x = Check.ferry("belt sum 1 120;horse 1 200 0;");
        x.put(0, 0);
        Check.due("over in minute 120", x.cross(0), 120);
        Check.due("nothing missed", x.told(9), 0);
        Check.due("80 left", x.cross(0), -1);
        OatFerry y = Check.ferry("belt sum 1 121;horse 1 200 0;");
        y.put(0, 0);
        Check.due("not behind 120 minutes", y.cross(0), -1);
        Check.due("oats of 120 minutes", y.told(8), 120);
        Check.due("strength of 120 minutes", y.horse(0, 4), 80);
    }

    private static void theTideAlone() {
        OatFerry x = Check.ferry("belt sum 1 30;horse 10 3 2;tide 20,25;");
        x.put(0, 0);
        x.cross(0);
        Check.due("lame", x.told(12), 1);
        Check.due("with the tide", x.trial(0, 0), 6);
        Check.due("a lame one eats nothing", x.trial(0, 1), 0);
        Check.due("against the load", x.trial(5, 0), -1);
        Check.due("cross(0)", x.cross(0), 6);
        Check.due("who stood did not rest", x.horse(0, 4), 0);
        Check.due("at slack tide", x.cross(0), -1);
    }

    private static void resting() {
        OatFerry x = Check.ferry("belt sum 1 30;horse 10 3 2;horse 10 9 4;");
        Check.due("rest(0)", x.rest(0), OUTSIDE);
        Check.due("rest(100)", x.rest(100), OUTSIDE);
        Check.due("the hour stays", x.told(7), 0);
        x.put(1, 0);
        x.cross(0);
        x.put(1, -1);
        x.put(0, 0);
        x.cross(0);
        Check.due("lame", x.told(12), 1);
        Check.due("rested an hour, S at most", x.horse(1, 4), 9);
        Check.due("rest(1)", x.rest(1), 3);
        Check.due("at its place it rests too", x.horse(0, 4), 2);
        Check.due("lame no more", x.told(12), 0);
        Check.due("rest(2)", x.rest(2), 5);
        Check.due("S at most", x.horse(0, 4), 3);
        Check.due("rest(99)", x.rest(99), 104);
    }

    private static void drifting() {
        Check.due("new: drift(1)", new OatFerry().drift(1), NOT);
        Check.due("OUTSIDE ahead of NOT", new OatFerry().drift(0), OUTSIDE);
        Check.due("no horses", Check.ferry("belt sum 1 1;").drift(1), NOT);
        OatFerry x = Check.ferry("belt sum 2 10;horse 30 200 0;horse 20 50 3;");
        Check.due("drift(100)", x.drift(100), OUTSIDE);
        long seed = 7;
        int hour = 0;
        x.seed(7);
        for (int day = 0; day < 40; day++) {
            int[] stands = {-1, -1};
            for (int p = 0; p < 2; p++) {
                seed = (seed * 1103515245L + 12345L) % 2147483648L;
                int h = (int) (seed / 65536 % 3);
                if (h < 2 && (p == 0 || stands[0] != h)) {
                    stands[p] = h;
                }
            }
            seed = (seed * 1103515245L + 12345L) % 2147483648L;
            hour += stands[0] == -1 && stands[1] == -1 ? 0 : 1;
            seed = (seed * 1103515245L + 12345L) % 2147483648L;
            hour += (int) (seed / 65536 % 4);
            x.drift(1);
            Check.due("day " + day + " at(0)", x.at(0), stands[0]);
            Check.due("day " + day + " at(1)", x.at(1), stands[1]);
            Check.due("day " + day + " hour", x.told(7), hour);
            x.keep(0);
            Check.due("day " + day + " seed", x.seed(0), seed);
            x.goBack(0);
        }
        OatFerry y = Check.ferry("belt sum 2 10;horse 30 200 0;horse 20 50 3;");
        y.seed(7);
        Check.due("40 days at once", y.drift(40), x.told(9));
        Check.due("99 days", Check.ferry("belt sum 1 1;horse 30 200 60;").drift(99) < 0 ? -1 : 0, 0);
        Check.due("their oats", y.told(8), x.told(8));
        Check.due("their strengths", y.horse(0, 4), x.horse(0, 4));
    }
}
