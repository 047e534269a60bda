import java.lang.reflect.Field;

/** Part 2 and promises 5 to 14: each sentence about standing, crossing and resting that names an edge. */
public final class CrossingEdgesTest {
    private static final int NONE = OatFerry.NONE, UNKNOWN = OatFerry.UNKNOWN, OUTSIDE = OatFerry.OUTSIDE;
    private static final int NOT = OatFerry.NOT, LEAST = Integer.MIN_VALUE, MOST = Integer.MAX_VALUE;

    public static void main(String[] args) throws ReflectiveOperationException {
        toldBounds();
        horseBounds();
        besideBounds();
        cartBounds();
        theTideComesRound();
        oneHorseAtEachPlace();
        wherePutWas();
        placesNextToIt();
        zeroAtLeast();
        lameOrNot();
        blindOnes();
        bySum();
        bySlowest();
        tideMoreLoadLess();
        loads();
        overAsSoonAsSheHasComeSoFar();
        notBelowNothing();
        whateverItPulled();
        lameFromTheNextMinuteOn();
        behindAHundredAndTwentyMinutes();
        behindACrossing();
        strengthAtMost();
        restingHours();
        lameAsLongAs();
        setOfTheLame();
        oatsEaten();
        oatsAtMost();
        fiveHundredAndTwelveCalls();
        Check.end();
    }

    private static void toldBounds() {
        Check.about("told: 0 .. 12. OUTSIDE");
        OatFerry x = Check.ferry("belt slowest 3 321;horse 10 2 0;cart 7;cart 0;tide 0,40;due 33;");
        int[] told = {3, 1, 321, 1, 2, 33, 0, 0, 0, 0, 0, -20, 0};
        for (int what = 0; what <= 12; what++) {
            Check.due("told(" + what + ")", x.told(what), told[what]);
        }
        Check.each("told", x::told, OUTSIDE, -1, 13, 14, LEAST, MOST);
        Check.about("1 LAW (NONE without PLACES), 2 D (0 without)");
        Check.due("told(1)", new OatFerry().told(1), NONE);
        Check.due("told(2)", new OatFerry().told(2), 0);
    }

    private static void horseBounds() {
        Check.about("horse: what = 0 .. 6. UNKNOWN, OUTSIDE");
        OatFerry x = Check.ferry("belt sum 2 50;horse 10 20 5;horse 3 9 0;blind 1;");
        x.put(1, 1);
        int[] told = {3, 9, 0, 1, 9, 1, 3};
        for (int what = 0; what <= 6; what++) {
            Check.due("horse(1, " + what + ")", x.horse(1, what), told[what]);
        }
        Check.each("what: horse", what -> x.horse(1, what), OUTSIDE, -1, 7, LEAST, MOST);
        Check.each("h: horse", h -> x.horse(h, 0), UNKNOWN, -1, 2, 6, LEAST, MOST);
        Check.each("UNKNOWN ahead of OUTSIDE: horse", h -> x.horse(h, 7), UNKNOWN, -1, 2);
        Check.about("5 its PLACE (NONE), 6 what it pulls now (0 at no PLACE, LAME)");
        Check.due("horse(0, 5)", x.horse(0, 5), NONE);
        Check.due("horse(0, 6)", x.horse(0, 6), 0);
        Check.due("sees", x.horse(0, 3), 0);
        x.cross(240);
        Check.due("horse(1, 4), lame", x.horse(1, 4), 0);
        Check.due("horse(1, 6), lame", x.horse(1, 6), 0);
        Check.due("horse(1, 5), lame", x.horse(1, 5), 1);
        Check.due("P stays", x.horse(1, 0), 3);
        Check.due("S stays", x.horse(1, 1), 9);
    }

    private static void besideBounds() {
        Check.about("beside: UNKNOWN (one twice)");
        OatFerry x = Check.ferry("belt sum 2 50;horse 1 1 1;horse 1 1 1;horse 1 1 1;beside 0 2 10;beside 2 0 0;");
        Check.due("beside(0, 2)", x.beside(0, 2), 5);
        Check.due("beside(2, 0)", x.beside(2, 0), -5);
        Check.due("beside(1, 2)", x.beside(1, 2), 0);
        Check.each("twice: beside", h -> x.beside(h, h), UNKNOWN, 0, 1, 2, 3, -1);
        Check.each("a: beside", a -> x.beside(a, 0), UNKNOWN, -1, 3, LEAST, MOST);
        Check.each("b: beside", b -> x.beside(0, b), UNKNOWN, -1, 3, LEAST, MOST);
    }

    private static void cartBounds() {
        Check.about("W of a CART. UNKNOWN");
        OatFerry x = Check.ferry("belt sum 2 50;cart 9;cart 60;cart 0;");
        Check.due("cart(0)", x.cart(0), 9);
        Check.due("cart(1)", x.cart(1), 60);
        Check.due("cart(2)", x.cart(2), 0);
        Check.each("cart", x::cart, UNKNOWN, -1, 3, 4, LEAST, MOST);
        Check.each("none: cart", Check.ferry("belt sum 2 50;")::cart, UNKNOWN, -1, 0);
    }

    private static void theTideComesRound() {
        Check.about("HOURS are counted from 0, THE HOUR is 0 at first");
        OatFerry x = Check.ferry("belt sum 1 1;horse 1 1 0;tide 0,1,2,3,4,5,6,7,8,9,10,40;");
        Check.due("told(7)", x.told(7), 0);
        Check.about("the tide of hour h is that of h left over by how many are told");
        Check.due("hour 0", x.told(11), -20);
        x.rest(11);
        Check.due("hour 11, the last", x.told(11), 20);
        x.rest(1);
        Check.due("hour 12, the first again", x.told(11), -20);
        x.rest(99);
        Check.due("hour 111", x.told(11), 3 - 20);
        OatFerry y = Check.ferry("belt sum 1 10;horse 10 99 0;tide 20,25,10;");
        y.put(0, 0);
        int[] minutes = {1, 1, NONE, 1, 1, NONE, 1};
        for (int hour = 0; hour < minutes.length; hour++) {
            Check.due("cross in hour " + hour, y.trial(0, 0), minutes[hour]);
            y.rest(1);
        }
    }

    private static void oneHorseAtEachPlace() {
        Check.about("One HORSE at most stands at each PLACE (none at first), each at one at most");
        OatFerry x = Check.ferry("belt sum 3 100;horse 1 9 0;horse 2 9 0;horse 3 9 0;horse 4 9 0;");
        for (int p = 0; p < 3; p++) {
            Check.due("none at first: at(" + p + ")", x.at(p), NONE);
        }
        Check.each("at", x::at, UNKNOWN, -1, 3, LEAST, MOST);
        x.put(0, 0);
        x.put(0, 2);
        Check.due("at one at most: at(0)", x.at(0), NONE);
        Check.due("at(2)", x.at(2), 0);
        Check.due("horse(0, 5)", x.horse(0, 5), 2);
        x.put(1, 0);
        x.put(2, 1);
        Check.about("NOT: another one is there");
        Check.each("put(3, p)", p -> x.put(3, p), NOT, 0, 1, 2);
        Check.due("put(0, 1)", x.put(0, 1), NOT);
        Check.due("it stays: at(2)", x.at(2), 0);
        Check.due("at(1)", x.at(1), 2);
        Check.due("put(2, 1) where it is", x.put(2, 1), 1);
        Check.due("at(1)", x.at(1), 2);
    }

    private static void wherePutWas() {
        Check.about("put: where it was (NONE). UNKNOWN");
        OatFerry x = Check.ferry("belt sum 2 100;horse 1 9 0;horse 2 9 0;");
        Check.due("put(1, 1)", x.put(1, 1), NONE);
        Check.due("put(1, 0)", x.put(1, 0), 1);
        Check.due("put(1, NONE)", x.put(1, NONE), 0);
        Check.due("put(1, NONE)", x.put(1, NONE), NONE);
        Check.each("h: put", h -> x.put(h, 0), UNKNOWN, -1, 2, 6, LEAST, MOST);
        Check.each("h: put away", h -> x.put(h, NONE), UNKNOWN, -1, 2, LEAST, MOST);
        Check.each("p: put", p -> x.put(0, p), UNKNOWN, -2, 2, 3, LEAST, MOST);
        x.put(1, 0);
        Check.due("UNKNOWN ahead of NOT", x.put(2, 0), UNKNOWN);
    }

    private static void placesNextToIt() {
        Check.about("its moods beside HORSES at the PLACES next to it");
        OatFerry x = Check.ferry("belt sum 3 100;horse 10 9 0;horse 20 9 0;horse 30 9 0;"
                + "beside 0 1 6;beside 0 2 8;beside 1 0 4;beside 1 2 0;beside 2 1 10;");
        x.put(0, 0);
        x.put(2, 2);
        Check.due("0 and 2 are not next to one another", x.horse(0, 6), 10);
        Check.due("nor 2 and 0", x.horse(2, 6), 30);
        x.put(1, 1);
        Check.due("0 beside 1", x.horse(0, 6), 11);
        Check.due("1 beside both", x.horse(1, 6), 14);
        Check.due("2 beside 1", x.horse(2, 6), 35);
        Check.due("all: 60 a minute", x.trial(0, 1), 120);
        x.put(1, NONE);
        x.put(0, 1);
        Check.due("0 beside 2 alone", x.horse(0, 6), 13);
        Check.due("2 beside 0, untold", x.horse(2, 6), 30);
        x.put(1, 0);
        Check.due("0 beside both", x.horse(0, 6), 14);
        Check.due("1 beside 0", x.horse(1, 6), 19);
        OatFerry most = Check.ferry("belt sum 3 40;horse 30 9 0;horse 1 9 0;horse 1 9 0;beside 0 1 10;beside 0 2 10;");
        most.put(1, 0);
        most.put(0, 1);
        most.put(2, 2);
        Check.due("5 more, twice", most.horse(0, 6), 40);
    }

    private static void zeroAtLeast() {
        Check.about("pulls P and its moods, 0 at least");
        for (int pull = 1; pull <= 12; pull++) {
            OatFerry x = Check.ferry("belt sum 3 30;horse " + pull + " 9 0;horse 10 9 0;horse 4 9 0;"
                    + "beside 0 1 0;beside 0 2 0;");
            x.put(0, 1);
            x.put(1, 0);
            Check.due(pull + " less 5", x.horse(0, 6), Math.max(0, pull - 5));
            Check.due("it takes nothing from the other", x.trial(0, 0), pull <= 5 ? 3 : (30 + pull + 4) / (pull + 5));
            x.put(2, 2);
            Check.due(pull + " less 10", x.horse(0, 6), Math.max(0, pull - 10));
        }
        OatFerry y = Check.ferry("belt sum 3 30;horse 4 9 0;horse 1 9 0;horse 1 9 0;beside 0 1 0;beside 0 2 10;");
        y.put(1, 0);
        y.put(0, 1);
        y.put(2, 2);
        Check.due("4 less 5, 5 more: of all together", y.horse(0, 6), 4);
    }

    private static void lameOrNot() {
        Check.about("beside HORSES (LAME or not)");
        OatFerry x = Check.ferry("belt sum 2 30;horse 10 99 0;horse 1 1 0;beside 0 1 10;");
        x.put(1, 0);
        x.cross(240);
        x.put(0, 1);
        Check.due("the other is lame", x.told(12), 2);
        Check.due("horse(0, 6)", x.horse(0, 6), 15);
        Check.due("trial(0, 0)", x.trial(0, 0), 2);
        OatFerry y = Check.ferry("belt sum 2 61;horse 10 99 0;horse 1 1 0;beside 0 1 10;");
        y.put(0, 0);
        y.put(1, 1);
        Check.due("lame on the way: 16, then 15 each", y.trial(0, 0), 4);
        Check.due("its oats", y.trial(0, 1), 61);
    }

    private static void blindOnes() {
        Check.about("a blind one pulls P always");
        OatFerry x = Check.ferry("belt sum 3 80;horse 10 99 0;horse 10 99 0;horse 10 99 0;"
                + "beside 0 1 0;beside 0 2 0;beside 1 0 10;blind 0;blind 2;");
        x.put(1, 0);
        x.put(0, 1);
        x.put(2, 2);
        Check.due("the blind one", x.horse(0, 6), 10);
        Check.due("one beside a blind one", x.horse(1, 6), 15);
        Check.due("35 a minute", x.trial(0, 0), 3);
        OatFerry up = Check.ferry("belt sum 3 80;horse 10 99 0;horse 10 99 0;horse 3 99 0;"
                + "beside 0 1 10;beside 0 2 10;beside 2 0 0;blind 0;blind 2;");
        up.put(1, 0);
        up.put(0, 1);
        up.put(2, 2);
        Check.due("not more either", up.horse(0, 6), 10);
        Check.due("not less", up.horse(2, 6), 3);
        Check.due("23 a minute", up.trial(0, 0), 4);
    }

    private static void bySum() {
        Check.about("By LAW 'sum' the PACE is all of it together");
        OatFerry x = Check.ferry("belt sum 3 60;horse 30 9 0;horse 20 9 0;horse 10 9 0;");
        x.put(0, 2);
        Check.due("one", x.trial(0, 0), 2);
        x.put(2, 0);
        Check.due("40", x.trial(0, 0), 2);
        x.put(1, 1);
        Check.due("60", x.trial(0, 0), 1);
        Check.due("61 are too broad for one minute", x.trial(1, 0), 2);
    }

    private static void bySlowest() {
        Check.about("by 'slowest' the least of the HORSES at PLACES (LAME ones 0) times how many stand");
        OatFerry x = Check.ferry("belt slowest 3 60;horse 30 99 0;horse 20 99 0;horse 10 1 0;horse 5 99 0;beside 3 1 0;");
        x.put(0, 1);
        Check.due("one: 30", x.trial(0, 0), 2);
        x.put(1, 2);
        Check.due("twice 20", x.trial(0, 0), 2);
        Check.due("50 eaten in a minute", x.trial(0, 1), 100);
        x.put(1, NONE);
        x.put(2, 2);
        Check.due("twice 10, then nothing", x.trial(0, 0), NONE);
        x.cross(240);
        Check.due("it is lame", x.told(12), 5);
        x.rest(1);
        x.put(0, NONE);
        x.put(1, 1);
        Check.due("beside a lame one: twice 0", x.trial(0, 0), NONE);
        x.put(2, NONE);
        Check.due("alone", x.trial(0, 0), 3);
        x.put(3, 2);
        Check.due("one that pulls nothing: twice 0", x.trial(0, 0), NONE);
        OatFerry y = Check.ferry("belt slowest 3 60;horse 5 99 0;horse 20 99 0;horse 30 99 0;");
        y.put(0, 2);
        y.put(1, 1);
        y.put(2, 0);
        Check.due("the last is the least: thrice 5", y.trial(0, 0), 4);
        y.put(0, NONE);
        y.put(1, NONE);
        y.put(0, 1);
        Check.due("the second is the least: twice 5", y.trial(0, 0), 6);
        y.put(2, NONE);
        y.put(1, 2);
        Check.due("the first is the least: twice 5", y.trial(0, 0), 6);
    }

    private static void tideMoreLoadLess() {
        Check.about("then the tide more, LOAD less");
        for (int tide = 0; tide <= 40; tide += 5) {
            OatFerry x = Check.ferry("belt slowest 2 30;horse 15 200 0;horse 10 200 0;tide " + tide + ";");
            x.put(0, 0);
            x.put(1, 1);
            for (int load = 0; load <= 40; load += 5) {
                int pace = tide - load;
                Check.due("tide " + tide + ", load " + load, x.trial(load, 0), pace <= 0 ? NONE : (30 + pace - 1) / pace);
            }
        }
    }

    private static void loads() {
        Check.about("a LOAD (0 .. 240). OUTSIDE, NOT: nobody stands");
        OatFerry x = Check.ferry("belt sum 3 5;horse 30 200 0;");
        Check.each("NOT: cross", x::cross, NOT, 0, 1, 239, 240);
        Check.each("NOT: trial", load -> x.trial(load, 1), NOT, 0, 1, 239, 240);
        Check.each("OUTSIDE ahead of NOT: cross", x::cross, OUTSIDE, -1, 241, LEAST, MOST);
        Check.each("OUTSIDE ahead of NOT: trial", load -> x.trial(load, 0), OUTSIDE, -1, 241, LEAST, MOST);
        Check.each("what: trial", what -> x.trial(0, what), OUTSIDE, -1, 2, LEAST, MOST);
        x.put(0, 1);
        Check.each("what: trial", what -> x.trial(0, what), OUTSIDE, -1, 2, LEAST, MOST);
        Check.each("load: trial", load -> x.trial(load, 1), OUTSIDE, -1, 241, LEAST, MOST);
        Check.each("load: cross", x::cross, OUTSIDE, -1, 241, LEAST, MOST);
        Check.due("the hour stays", x.told(7), 0);
        Check.due("trial(0, 0)", x.trial(0, 0), 1);
        Check.due("trial(25, 0)", x.trial(25, 0), 1);
        Check.due("trial(26, 0)", x.trial(26, 0), 2);
        Check.due("trial(29, 0)", x.trial(29, 0), 5);
        Check.due("trial(30, 0)", x.trial(30, 0), NONE);
        Check.due("trial(240, 0)", x.trial(240, 0), NONE);
        Check.due("trial(240, 1)", x.trial(240, 1), 3600);
        Check.due("nobody tired", x.horse(0, 4), 200);
        Check.due("nothing eaten", x.told(8), 0);
        Check.due("nothing missed", x.told(9), 0);
        Check.due("cross(0)", x.cross(0), 1);
        Check.due("cross(240)", x.cross(240), NONE);
        Check.due("missed", x.told(9), 1);
        x.put(0, NONE);
        Check.due("nobody again", x.cross(0), NOT);
        Check.due("told(7)", x.told(7), 2);
        Check.due("no ferry at all", new OatFerry().cross(0), NOT);
        Check.due("no ferry at all", new OatFerry().trial(0, 0), NOT);
        Check.due("no ferry at all", new OatFerry().cross(241), OUTSIDE);
    }

    private static void overAsSoonAsSheHasComeSoFar() {
        Check.about("She is OVER as soon as she has come D");
        for (int broad = 1; broad <= 40; broad++) {
            OatFerry x = Check.ferry("belt sum 1 " + broad + ";horse 10 9 0;");
            x.put(0, 0);
            int minutes = (broad + 9) / 10;
            Check.due("trial(0, 0) of " + broad, x.trial(0, 0), minutes);
            Check.due("trial(0, 1) of " + broad, x.trial(0, 1), 10 * minutes);
            Check.due("cross(0) of " + broad, x.cross(0), minutes);
            Check.due("strength", x.horse(0, 4), 9 - minutes);
        }
        OatFerry far = Check.ferry("belt sum 1 999;horse 9 200 0;");
        far.put(0, 0);
        Check.due("999 by 9", far.trial(0, 0), 111);
        Check.due("999 by 8", far.trial(1, 0), NONE);
    }

    private static void notBelowNothing() {
        // The pace never rises on the way: who is set back is never over, and how far back she is cannot be seen.
        Check.about("She has come PACE farther (not below 0)");
        OatFerry x = Check.ferry("belt sum 2 1;horse 10 3 0;horse 5 200 0;tide 0,25;");
        x.put(0, 0);
        x.put(1, 1);
        Check.due("back from the first minute on", x.cross(0), NONE);
        Check.due("both walked all the while", x.told(8), 30 + 600);
        Check.due("behind it she begins anew", x.cross(0), 1);
    }

    private static void whateverItPulled() {
        Check.about("one less STRENGTH left, whatever it pulled; it eats as much OATS as it pulled");
        OatFerry x = Check.ferry("belt sum 2 30;horse 10 9 0;horse 5 9 0;beside 1 0 0;");
        x.put(0, 0);
        x.put(1, 1);
        Check.due("it pulls nothing", x.horse(1, 6), 0);
        Check.due("cross(0)", x.cross(0), 3);
        Check.due("tired like the other", x.horse(1, 4), 6);
        Check.due("horse(0, 4)", x.horse(0, 4), 6);
        Check.due("it ate nothing", x.told(8), 30);
        OatFerry y = Check.ferry("belt slowest 2 30;horse 10 9 0;horse 5 9 0;");
        y.put(0, 0);
        y.put(1, 1);
        Check.due("cross(0)", y.cross(0), 3);
        Check.due("by 'slowest' too each eats what it pulled", y.told(8), 45);
    }

    private static void lameFromTheNextMinuteOn() {
        Check.about("with none left it is LAME from the next minute on");
        for (int strength = 1; strength <= 5; strength++) {
            OatFerry x = Check.ferry("belt sum 1 30;horse 10 " + strength + " 0;tide 21;");
            x.put(0, 0);
            int come = 11 * Math.min(3, strength);
            int minutes = come >= 30 ? 3 : strength + 30 - come;
            Check.due("strength " + strength, x.trial(0, 0), minutes);
            Check.due("its oats", x.trial(0, 1), 10 * Math.min(3, strength));
            Check.due("cross(0)", x.cross(0), minutes);
            Check.due("strength left", x.horse(0, 4), Math.max(0, strength - 3));
            Check.due("lame", x.told(12), strength <= 3 ? 1 : 0);
        }
        OatFerry three = Check.ferry("belt sum 3 100;horse 10 2 0;horse 8 4 0;horse 6 6 0;tide 21;");
        three.put(0, 2);
        three.put(1, 0);
        three.put(2, 1);
        Check.due("25, 25, 15, 15, 7, 7, then 1 each", three.trial(0, 0), 12);
        Check.due("their oats", three.trial(0, 1), 20 + 32 + 36);
        Check.due("with a load of 1: 24, 24, 14, 14, 6, 6, then none", three.trial(1, 0), NONE);
        OatFerry y = Check.ferry("belt slowest 2 45;horse 10 2 0;horse 12 99 0;");
        y.put(0, 0);
        y.put(1, 1);
        Check.due("20 and 20, then 0", y.trial(0, 0), NONE);
        OatFerry z = Check.ferry("belt slowest 2 40;horse 10 2 0;horse 12 99 0;");
        z.put(0, 0);
        z.put(1, 1);
        Check.due("20 and 20", z.trial(0, 0), 2);
    }

    private static void behindAHundredAndTwentyMinutes() {
        Check.about("behind 120 minutes she is not: the landing is MISSED");
        for (String law : new String[] {"sum", "slowest"}) {
            for (int broad = 119; broad <= 122; broad++) {
                OatFerry x = Check.ferry("belt " + law + " 1 " + broad + ";horse 1 200 0;");
                x.put(0, 0);
                boolean over = broad <= 120;
                int walked = Math.min(120, broad);
                Check.due("trial(0, 0) of " + broad, x.trial(0, 0), over ? broad : NONE);
                Check.due("trial(0, 1) of " + broad, x.trial(0, 1), walked);
                Check.due("cross(0) of " + broad, x.cross(0), over ? broad : NONE);
                Check.due("missed", x.told(9), over ? 0 : 1);
                Check.due("eaten", x.told(8), walked);
                Check.due("strength", x.horse(0, 4), 200 - walked);
                Check.due("the hour", x.told(7), 1);
            }
        }
        for (int strength = 118; strength <= 122; strength++) {
            OatFerry x = Check.ferry("belt sum 1 120;horse 1 " + strength + " 0;");
            x.put(0, 0);
            Check.due("with strength " + strength, x.cross(0), strength >= 120 ? 120 : NONE);
            Check.due("strength left", x.horse(0, 4), Math.max(0, strength - 120));
            Check.due("lame", x.told(12), strength <= 120 ? 1 : 0);
            Check.due("eaten", x.told(8), Math.min(120, strength));
        }
        OatFerry drifts = Check.ferry("belt sum 1 119;horse 20 1 0;tide 20,21;");
        drifts.put(0, 0);
        drifts.cross(240);
        Check.due("lame, by the tide alone", drifts.trial(0, 0), 119);
        OatFerry missed = Check.ferry("belt sum 1 999;horse 1 1 0;");
        missed.put(0, 0);
        for (int i = 1; i <= 5; i++) {
            missed.cross(0);
            Check.due("each is counted", missed.told(9), i);
        }
    }

    private static void behindACrossing() {
        Check.about("behind it THE HOUR is one more; HORSES that stood at no PLACE rest; those that stood do not");
        OatFerry x = Check.ferry("belt sum 2 20;horse 10 20 3;horse 10 20 4;horse 10 20 5;");
        x.put(0, 0);
        x.put(1, 1);
        x.cross(10);
        x.cross(10);
        x.put(2, 0);
        x.put(0, NONE);
        x.put(2, 0);
        Check.due("the hour", x.told(7), 2);
        Check.due("horse(0, 4)", x.horse(0, 4), 16);
        Check.due("horse(1, 4)", x.horse(1, 4), 16);
        Check.due("cross(0)", x.cross(0), 1);
        Check.due("it rested: 3 more", x.horse(0, 4), 19);
        Check.due("it stood: 1 less", x.horse(1, 4), 15);
        Check.due("it stood: 1 less", x.horse(2, 4), 19);
        Check.due("the hour", x.told(7), 3);
        Check.due("a missed one", x.cross(240), NONE);
        Check.due("the hour", x.told(7), 4);
        Check.due("it rested: S at most", x.horse(0, 4), 20);
        Check.due("who stood is lame", x.told(12), 6);
        Check.due("all stand where they stood", x.at(0), 2);
        Check.due("at(1)", x.at(1), 1);
    }

    private static void strengthAtMost() {
        Check.about("R more STRENGTH (S at most)");
        for (int back = 0; back <= 12; back++) {
            OatFerry x = Check.ferry("belt sum 1 80;horse 10 20 " + back + ";horse 30 200 0;");
            x.put(0, 0);
            x.cross(0);
            Check.due("12 left", x.horse(0, 4), 12);
            x.put(0, NONE);
            x.put(1, 0);
            x.keep(0);
            x.cross(0);
            Check.due("an hour at no place, R " + back, x.horse(0, 4), Math.min(20, 12 + back));
            x.goBack(0);
            x.rest(1);
            Check.due("an hour of rest, R " + back, x.horse(0, 4), Math.min(20, 12 + back));
            x.goBack(0);
            x.rest(3);
            Check.due("three hours of rest, R " + back, x.horse(0, 4), Math.min(20, 12 + 3 * back));
        }
    }

    private static void restingHours() {
        Check.about("TO REST n hours (1 .. 99): THE HOUR. OUTSIDE");
        OatFerry x = Check.ferry("belt sum 2 999;horse 1 200 1;horse 1 120 2;horse 1 100 0;");
        x.put(0, 0);
        x.put(1, 1);
        x.cross(0);
        Check.each("rest", x::rest, OUTSIDE, 0, -1, 100, LEAST, MOST);
        Check.due("the hour", x.told(7), 1);
        Check.due("strength", x.horse(0, 4), 80);
        Check.about("TO REST n hours: all rest");
        Check.due("rest(1)", x.rest(1), 2);
        Check.due("at its place", x.horse(0, 4), 81);
        Check.due("at its place", x.horse(1, 4), 2);
        Check.due("rest(98)", x.rest(98), 100);
        Check.due("98 more", x.horse(0, 4), 179);
        Check.due("S at most", x.horse(1, 4), 120);
        Check.due("rest(99)", x.rest(99), 199);
        Check.due("S at most", x.horse(0, 4), 200);
        Check.due("it stands there still", x.at(0), 0);
        Check.due("with no ferry at all", new OatFerry().rest(99), 99);
        Check.due("with no ferry at all", new OatFerry().rest(100), OUTSIDE);
    }

    private static void lameAsLongAs() {
        Check.about("LAME ones are so as long as they have no STRENGTH");
        OatFerry x = Check.ferry("belt sum 2 999;horse 30 5 1;horse 30 5 0;");
        x.put(0, 0);
        x.put(1, 1);
        x.cross(60);
        Check.due("both", x.told(12), 3);
        Check.due("a lame one has none, not less", x.horse(0, 4), 0);
        x.cross(60);
        Check.due("lame ones crossed", x.told(12), 3);
        Check.due("and have none, not less", x.horse(1, 4), 0);
        Check.due("a lame one eats nothing", x.told(8), 300);
        x.rest(1);
        Check.due("one has strength again", x.told(12), 2);
        Check.due("it pulls again", x.horse(0, 6), 30);
        x.rest(99);
        Check.due("the other never", x.told(12), 2);
        Check.due("it pulls nothing", x.horse(1, 6), 0);
    }

    private static void setOfTheLame() {
        Check.about("12 who is LAME (a SET)");
        OatFerry x = Check.ferry("belt sum 1 999;" + "horse 30 1 0;".repeat(6));
        for (int h = 0; h < 6; h++) {
            Check.due("told(12)", x.told(12), (1 << h) - 1);
            x.put(h, 0);
            x.cross(0);
            x.put(h, NONE);
        }
        Check.due("all six, though nobody stands", x.told(12), 63);
    }

    private static void oatsEaten() {
        Check.about("8 OATS eaten, 9 landings MISSED");
        OatFerry x = Check.ferry("belt sum 1 20;horse 10 99 0;");
        x.put(0, 0);
        x.trial(0, 1);
        x.soonest(0, -1);
        Check.due("none by trying", x.told(8), 0);
        x.cross(0);
        Check.due("20", x.told(8), 20);
        x.cross(5);
        Check.due("40 more", x.told(8), 60);
        Check.due("none missed", x.told(9), 0);
    }

    /** No 512 calls can eat so much: it is put there by force, where the class holds it as this one does. */
    private static void oatsAtMost() throws ReflectiveOperationException {
        Check.about("OATS eaten (999999999 at most)");
        for (int ahead = 999999969; ahead <= 999999999; ahead += 10) {
            OatFerry x = Check.ferry("belt sum 1 20;horse 10 99 0;");
            x.put(0, 0);
            try {
                Field now = OatFerry.class.getDeclaredField("now");
                now.setAccessible(true);
                Field oats = now.get(x).getClass().getDeclaredField("oats");
                oats.setAccessible(true);
                oats.setInt(now.get(x), ahead);
            } catch (NoSuchFieldException e) {
                System.out.println("the OATS eaten are held elsewhere: their most is not looked at");
                return;
            }
            Check.due("told(8)", x.told(8), ahead);
            x.cross(0);
            Check.due("20 more than " + ahead, x.told(8), Math.min(999999999, ahead + 20));
        }
    }

    private static void fiveHundredAndTwelveCalls() {
        Check.about("An object is used for at most 512 calls after it has been made");
        OatFerry x = new OatFerry();
        for (int call = 1; call <= 512; call++) {
            Check.due("call " + call, x.rest(99), 99 * call);
        }
        OatFerry y = Check.ferry("belt sum 1 1;horse 30 200 60;tide 20,21,22;");
        // The text took six calls, and ferry() one.
        for (int call = 8; call <= 510; call++) {
            y.drift(99);
        }
        int hour = y.told(7);
        Check.yes("four hours a day at most", hour > 0 && hour <= 503 * 99 * 4);
        Check.due("the 512th call", y.told(11), hour % 3);
    }
}
