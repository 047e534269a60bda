/** SOONEST to CARTS of part 3, promises 15 to 20: each sentence that names an edge. */
public final class TriedEdgesTest {
    private static final int NONE = OatFerry.NONE, UNKNOWN = OatFerry.UNKNOWN, OUTSIDE = OatFerry.OUTSIDE;
    private static final int LEAST = Integer.MIN_VALUE, MOST = Integer.MAX_VALUE;
    private static final int OATS = -2, MINUTES = -2;

    public static void main(String[] args) {
        soonestBounds();
        oneHorseAtLeast();
        fewestMinutes();
        thenLeastOats();
        thenTheFirst();
        fromHowTheyAre();
        soonestWithinAHundredAndTwenty();
        cheapestBounds();
        cheapestInTime();
        leastOatsThenFewestMinutes();
        thenTheFirstOfTheCheapest();
        twiceBounds();
        bothInTime();
        theNextHour();
        havingRested();
        leastOatsTogether();
        thenTheFirstOfBoth();
        waitBounds();
        elevenHours();
        fewestHours();
        waitIsFromNow();
        worthBounds();
        missedCountsOneMore();
        cartBounds();
        fewestCrossings();
        noneEmpty();
        lesserSetFirst();
        theHourAndRestsGoOn();
        asSoonestTells();
        noSuchRow();
        tryingChangesNothing();
        Check.end();
    }

    private static void soonest(OatFerry x, int load, int minutes, int oats, int... stands) {
        Check.due("soonest(" + load + ", NONE)", x.soonest(load, NONE), minutes);
        Check.due("soonest(" + load + ", -2)", x.soonest(load, OATS), oats);
        for (int p = 0; p < stands.length; p++) {
            Check.due("soonest(" + load + ", " + p + ")", x.soonest(load, p), stands[p]);
        }
    }

    private static void cheapest(OatFerry x, int load, int oats, int minutes, int... stands) {
        Check.due("cheapest(" + load + ", NONE)", x.cheapest(load, NONE), oats);
        Check.due("cheapest(" + load + ", -2)", x.cheapest(load, MINUTES), minutes);
        for (int p = 0; p < stands.length; p++) {
            Check.due("cheapest(" + load + ", " + p + ")", x.cheapest(load, p), stands[p]);
        }
    }

    private static void twice(OatFerry x, int load, int oats, int[] first, int[] second) {
        for (int k = 0; k <= 1; k++) {
            Check.due("twice(" + load + ", " + k + ", NONE)", x.twice(load, k, NONE), oats);
        }
        for (int p = 0; p < first.length; p++) {
            Check.due("twice(" + load + ", 0, " + p + ")", x.twice(load, 0, p), first[p]);
            Check.due("twice(" + load + ", 1, " + p + ")", x.twice(load, 1, p), second[p]);
        }
    }

    private static int[] at(int... horses) {
        return horses;
    }

    private static void soonestBounds() {
        Check.about("soonest: p = NONE minutes, -2 OATS, else a PLACE. UNKNOWN, OUTSIDE (load)");
        for (int places = 1; places <= 3; places++) {
            OatFerry x = Check.ferry("belt sum " + places + " 30;horse 30 50 0;");
            Check.due("minutes", x.soonest(0, NONE), 1);
            Check.due("OATS", x.soonest(0, OATS), 30);
            Check.due("the last PLACE", x.soonest(0, places - 1), 0);
            Check.each("p: soonest", p -> x.soonest(0, p), UNKNOWN, -3, places, 4, LEAST, MOST);
            Check.each("UNKNOWN ahead of OUTSIDE: soonest", p -> x.soonest(241, p), UNKNOWN, -3, places);
            Check.each("load: soonest", load -> x.soonest(load, NONE), OUTSIDE, -1, 241, LEAST, MOST);
            Check.each("load: soonest", load -> x.soonest(load, OATS), OUTSIDE, -1, 241);
            Check.each("load: soonest", load -> x.soonest(load, 0), OUTSIDE, -1, 241);
            Check.due("a LOAD of 29", x.soonest(29, NONE), 30);
            Check.each("NONE: soonest", load -> x.soonest(load, NONE), NONE, 30, 239, 240);
            Check.each("NONE: soonest", load -> x.soonest(load, OATS), NONE, 30, 239, 240);
            Check.each("NONE: soonest", load -> x.soonest(load, 0), NONE, 30, 239, 240);
        }
        OatFerry none = new OatFerry();
        Check.each("no ferry: soonest", p -> none.soonest(0, p), UNKNOWN, -3, 0, 1);
        Check.each("no ferry: soonest", p -> none.soonest(0, p), NONE, NONE, OATS);
        Check.each("no ferry: soonest", p -> none.soonest(241, p), OUTSIDE, NONE, OATS);
    }

    private static void oneHorseAtLeast() {
        Check.about("each PLACE has one or none; one HORSE at least");
        soonest(Check.ferry("belt sum 2 20;horse 5 9 0;horse 4 9 0;tide 40;"), 0, 1, 4, NONE, 1);
        cheapest(Check.ferry("belt sum 2 20;horse 5 9 0;horse 4 9 0;tide 40;"), 0, 4, 1, NONE, 1);
        twice(Check.ferry("belt sum 2 20;horse 5 9 0;horse 4 9 0;tide 40;"), 0, 8, at(NONE, 1), at(NONE, 1));
        OatFerry none = Check.ferry("belt sum 2 20;cart 5;tide 40;");
        soonest(none, 0, NONE, NONE, NONE, NONE);
        cheapest(none, 0, NONE, NONE, NONE, NONE);
        twice(none, 0, NONE, at(NONE, NONE), at(NONE, NONE));
        Check.due("best(0, 0)", none.best(0, 0), NONE);
        Check.due("best(0, 1)", none.best(0, 1), NONE);
        Check.due("carts(-1)", none.carts(NONE), NONE);
        OatFerry one = Check.ferry("belt sum 3 30;horse 10 9 0;");
        soonest(one, 0, 3, 30, NONE, NONE, 0);
        OatFerry three = Check.ferry("belt sum 3 60;" + "horse 20 9 0;".repeat(6));
        soonest(three, 0, 1, 60, 0, 1, 2);
    }

    private static void fewestMinutes() {
        Check.about("by which she is OVER in the fewest minutes");
        soonest(Check.ferry("belt sum 2 31;horse 10 9 0;horse 30 9 0;"), 0, 1, 40, 0, 1);
        soonest(Check.ferry("belt slowest 2 31;horse 10 9 0;horse 30 9 0;"), 0, 2, 60, NONE, 1);
        soonest(Check.ferry("belt slowest 2 31;horse 16 9 0;horse 30 9 0;"), 0, 1, 46, 0, 1);
        soonest(Check.ferry("belt sum 3 40;horse 10 9 0;horse 10 9 0;horse 10 9 0;beside 2 0 10;beside 2 1 10;"),
                0, 1, 40, 0, 2, 1);
        soonest(Check.ferry("belt sum 3 20;horse 10 9 0;horse 10 9 0;beside 0 1 0;beside 1 0 0;"), 0, 1, 20, 0, NONE, 1);
    }

    private static void thenLeastOats() {
        Check.about("SOONEST: of like ones the least OATS");
        soonest(Check.ferry("belt sum 2 30;horse 10 9 0;horse 30 9 0;"), 0, 1, 30, NONE, 1);
        soonest(Check.ferry("belt sum 2 30;horse 30 9 0;horse 16 9 0;horse 15 9 0;"), 0, 1, 30, NONE, 0);
        soonest(Check.ferry("belt sum 2 30;horse 16 9 0;horse 15 9 0;horse 15 9 0;"), 0, 1, 30, 1, 2);
        soonest(Check.ferry("belt sum 1 30;horse 13 9 0;horse 12 9 0;horse 11 9 0;horse 10 9 0;"), 0, 3, 30, 3);
    }

    private static void thenTheFirst() {
        Check.about("then the first (PLACE by PLACE none ahead of all, then the lesser HORSE)");
        soonest(Check.ferry("belt sum 1 10;" + "horse 10 9 0;".repeat(6)), 0, 1, 10, 0);
        soonest(Check.ferry("belt sum 2 10;" + "horse 10 9 0;".repeat(6)), 0, 1, 10, NONE, 0);
        soonest(Check.ferry("belt sum 3 10;" + "horse 10 9 0;".repeat(6)), 0, 1, 10, NONE, NONE, 0);
        soonest(Check.ferry("belt sum 3 20;" + "horse 10 9 0;".repeat(6)), 0, 1, 20, NONE, 0, 1);
        soonest(Check.ferry("belt sum 2 15;horse 5 9 0;horse 5 9 0;horse 10 9 0;"), 0, 1, 15, 0, 2);
        soonest(Check.ferry("belt sum 2 15;horse 10 9 0;horse 5 9 0;horse 5 9 0;"), 0, 1, 15, 0, 1);
        soonest(Check.ferry("belt sum 2 10;horse 9 9 0;horse 9 9 0;horse 10 9 0;"), 0, 1, 10, NONE, 2);
        // Beside one another they would pull less: the first such row leaves the place between.
        soonest(Check.ferry("belt sum 3 20;horse 10 9 0;horse 10 9 0;horse 10 9 0;"
                + "beside 0 1 4;beside 0 2 4;beside 1 0 4;beside 1 2 4;beside 2 0 4;beside 2 1 4;"), 0, 1, 20, 0, NONE, 1);
    }

    private static void fromHowTheyAre() {
        Check.about("TRIED at THE HOUR, with a LOAD, from how they are");
        OatFerry x = Check.ferry("belt sum 1 20;horse 20 3 0;horse 10 9 0;tide 20,10,30;");
        soonest(x, 0, 1, 20, 0);
        soonest(x, 5, 2, 40, 0);
        cheapest(x, 5, 40, 2, 0);
        x.put(0, 0);
        x.cross(240);
        Check.due("0 is lame, the tide is against them", x.told(12), 1);
        soonest(x, 0, NONE, NONE, NONE);
        cheapest(x, 0, NONE, NONE, NONE);
        x.rest(1);
        soonest(x, 0, 1, 10, 1);
        soonest(x, 1, 2, 20, 1);
        // A lame one may be taken: the tide does it alone.
        cheapest(x, 0, 0, 2, 0);
        cheapest(x, 9, 0, 20, 0);
        Check.due("who stands does not matter", x.at(0), 0);
    }

    private static void soonestWithinAHundredAndTwenty() {
        Check.about("MISSED behind 120 minutes: NONE: by none");
        for (int broad = 119; broad <= 122; broad++) {
            OatFerry x = Check.ferry("belt sum 1 " + broad + ";horse 1 200 0;due 120;cart 0;");
            boolean over = broad <= 120;
            soonest(x, 0, over ? broad : NONE, over ? broad : NONE, over ? 0 : NONE);
            cheapest(x, 0, over ? broad : NONE, over ? broad : NONE, over ? 0 : NONE);
            Check.due("best(0, 0)", x.best(0, 0), over ? 0 : NONE);
            Check.due("best(0, 1)", x.best(0, 1), over ? broad : NONE);
            Check.due("carts(NONE)", x.carts(NONE), over ? 1 : NONE);
        }
    }

    private static void cheapestBounds() {
        Check.about("cheapest: p = NONE OATS, -2 minutes, else a PLACE. UNKNOWN, OUTSIDE");
        for (int places = 1; places <= 3; places++) {
            OatFerry x = Check.ferry("belt sum " + places + " 30;horse 15 50 0;");
            Check.due("OATS", x.cheapest(0, NONE), 30);
            Check.due("minutes", x.cheapest(0, MINUTES), 2);
            Check.due("the last PLACE", x.cheapest(0, places - 1), 0);
            Check.each("p: cheapest", p -> x.cheapest(0, p), UNKNOWN, -3, places, 4, LEAST, MOST);
            Check.each("UNKNOWN ahead of OUTSIDE: cheapest", p -> x.cheapest(-1, p), UNKNOWN, -3, places);
            Check.each("load: cheapest", load -> x.cheapest(load, NONE), OUTSIDE, -1, 241, LEAST, MOST);
            Check.each("load: cheapest", load -> x.cheapest(load, 0), OUTSIDE, -1, 241);
            Check.each("NONE: cheapest", load -> x.cheapest(load, NONE), NONE, 15, 240);
            Check.each("NONE: cheapest", load -> x.cheapest(load, MINUTES), NONE, 15, 240);
            Check.each("NONE: cheapest", load -> x.cheapest(load, 0), NONE, 15, 240);
        }
        OatFerry none = new OatFerry();
        Check.each("no ferry: cheapest", p -> none.cheapest(0, p), UNKNOWN, -3, 0, 1);
        Check.each("no ferry: cheapest", p -> none.cheapest(0, p), NONE, NONE, MINUTES);
    }

    private static void cheapestInTime() {
        Check.about("OVER within M ('due') minutes");
        for (int due = 1; due <= 120; due += 17) {
            String belt = "belt sum 1 " + due + ";";
            cheapest(Check.ferry(belt + "horse 1 200 0;due " + due + ";"), 0, due, due, 0);
            if (due > 1) {
                cheapest(Check.ferry(belt + "horse 1 200 0;due " + (due - 1) + ";"), 0, NONE, NONE, NONE);
            }
        }
        cheapest(Check.ferry("belt sum 1 60;horse 1 200 0;"), 0, 60, 60, 0);
        cheapest(Check.ferry("belt sum 1 61;horse 1 200 0;"), 0, NONE, NONE, NONE);
        cheapest(Check.ferry("belt sum 1 20;horse 11 9 0;horse 1 99 0;due 20;"), 0, 20, 20, 1);
        cheapest(Check.ferry("belt sum 1 20;horse 11 9 0;horse 1 99 0;due 19;"), 0, 22, 2, 0);
    }

    private static void leastOatsThenFewestMinutes() {
        Check.about("on the least OATS; of like ones the fewest minutes");
        cheapest(Check.ferry("belt sum 1 20;horse 11 9 0;horse 7 9 0;"), 0, 21, 3, 1);
        cheapest(Check.ferry("belt sum 2 20;horse 5 9 0;horse 10 9 0;"), 0, 20, 2, NONE, 1);
        cheapest(Check.ferry("belt sum 2 20;horse 10 9 0;horse 5 9 0;"), 0, 20, 2, NONE, 0);
        cheapest(Check.ferry("belt sum 2 20;horse 10 9 0;horse 10 9 0;"), 0, 20, 1, 0, 1);
    }

    private static void thenTheFirstOfTheCheapest() {
        Check.about("CHEAPEST: then the first");
        cheapest(Check.ferry("belt sum 1 10;horse 3 9 0;" + "horse 10 9 0;".repeat(5)), 0, 10, 1, 1);
        cheapest(Check.ferry("belt sum 3 10;" + "horse 10 9 0;".repeat(6)), 0, 10, 1, NONE, NONE, 0);
        cheapest(Check.ferry("belt sum 3 20;horse 20 9 0;horse 10 9 0;horse 10 9 0;"), 0, 20, 1, NONE, NONE, 0);
        cheapest(Check.ferry("belt sum 3 20;horse 19 9 0;horse 10 9 0;horse 10 9 0;"), 0, 20, 1, NONE, 1, 2);
    }

    private static void twiceBounds() {
        Check.about("twice: p = NONE OATS of both, else a PLACE of CROSSING k (0, 1). UNKNOWN, OUTSIDE");
        for (int places = 1; places <= 3; places++) {
            OatFerry x = Check.ferry("belt sum " + places + " 30;horse 15 50 0;");
            Check.due("OATS of both", x.twice(0, 0, NONE), 60);
            Check.due("OATS of both", x.twice(0, 1, NONE), 60);
            Check.due("the last PLACE of 0", x.twice(0, 0, places - 1), 0);
            Check.due("the last PLACE of 1", x.twice(0, 1, places - 1), 0);
            Check.each("p: twice", p -> x.twice(0, 0, p), UNKNOWN, -2, -3, places, LEAST, MOST);
            Check.each("p: twice", p -> x.twice(0, 1, p), UNKNOWN, -2, places);
            Check.each("UNKNOWN ahead of OUTSIDE: twice", p -> x.twice(241, 2, p), UNKNOWN, -2, places);
            Check.each("k: twice", k -> x.twice(0, k, NONE), OUTSIDE, -1, 2, LEAST, MOST);
            Check.each("k: twice", k -> x.twice(0, k, 0), OUTSIDE, -1, 2);
            Check.each("load: twice", load -> x.twice(load, 0, NONE), OUTSIDE, -1, 241, LEAST, MOST);
            Check.each("load: twice", load -> x.twice(load, 1, 0), OUTSIDE, -1, 241);
            Check.each("NONE: twice", load -> x.twice(load, 0, NONE), NONE, 15, 240);
            Check.each("NONE: twice", load -> x.twice(load, 1, 0), NONE, 15, 240);
            Check.due("OATS of both again", x.twice(0, 0, NONE), 60);
        }
        OatFerry none = new OatFerry();
        Check.each("no ferry: twice", p -> none.twice(0, 0, p), UNKNOWN, -2, 0, 1);
        Check.due("no ferry: twice", none.twice(0, 0, NONE), NONE);
        Check.due("no ferry: twice", none.twice(0, 2, NONE), OUTSIDE);
    }

    private static void bothInTime() {
        Check.about("TWICE: by which both are OVER within M");
        String belt = "belt sum 1 20;horse 10 99 0;";
        twice(Check.ferry(belt + "due 2;"), 0, 40, at(0), at(0));
        twice(Check.ferry(belt + "due 1;"), 0, NONE, at(NONE), at(NONE));
        twice(Check.ferry(belt + "due 4;tide 20,15;"), 0, 60, at(0), at(0));
        twice(Check.ferry(belt + "due 3;tide 20,15;"), 0, NONE, at(NONE), at(NONE));
        twice(Check.ferry(belt + "due 4;tide 15,20;"), 0, 60, at(0), at(0));
        twice(Check.ferry(belt + "due 3;tide 15,20;"), 0, NONE, at(NONE), at(NONE));
        twice(Check.ferry("belt sum 1 60;horse 1 200 0;"), 0, 120, at(0), at(0));
        twice(Check.ferry("belt sum 1 61;horse 1 200 0;"), 0, NONE, at(NONE), at(NONE));
        twice(Check.ferry("belt sum 1 100;horse 1 200 0;due 120;"), 0, 200, at(0), at(0));
        twice(Check.ferry("belt sum 1 101;horse 1 200 0;due 120;"), 0, NONE, at(NONE), at(NONE));
    }

    private static void theNextHour() {
        Check.about("this CROSSING, then the one of the next hour (LOAD alike)");
        OatFerry x = Check.ferry("belt sum 1 20;horse 10 200 0;tide 20,30,15;");
        twice(x, 0, 30, at(0), at(0));
        twice(x, 5, 60, at(0), at(0));
        x.rest(1);
        twice(x, 0, 50, at(0), at(0));
        x.rest(1);
        twice(x, 0, 60, at(0), at(0));
        twice(x, 5, NONE, at(NONE), at(NONE));
    }

    private static void havingRested() {
        Check.about("those that did not stand having rested");
        twice(Check.ferry("belt sum 1 20;horse 10 3 60;due 9;"), 0, NONE, at(NONE), at(NONE));
        twice(Check.ferry("belt sum 1 20;horse 10 4 0;due 9;"), 0, 40, at(0), at(0));
        for (int back = 0; back <= 3; back++) {
            OatFerry x = Check.ferry("belt sum 1 20;horse 12 2 0;horse 10 9 " + back + ";due 9;");
            x.put(1, 0);
            x.cross(240);
            Check.due("1 is lame", x.told(12), 2);
            boolean can = back >= 2;
            twice(x, 0, can ? 44 : NONE, at(can ? 0 : NONE), at(can ? 1 : NONE));
        }
        // With more than S it could walk three minutes.
        OatFerry most = Check.ferry("belt sum 1 21;horse 12 2 0;horse 10 2 60;due 9;");
        twice(most, 0, NONE, at(NONE), at(NONE));
    }

    private static void leastOatsTogether() {
        Check.about("on the least OATS together");
        // The cheapest first crossing tires the one that the second needs.
        OatFerry x = Check.ferry("belt sum 1 15;horse 15 4 0;horse 12 99 0;tide 20,9;");
        Check.due("cheapest(0, 0)", x.cheapest(0, 0), 0);
        twice(x, 0, 84, at(1), at(0));
        OatFerry y = Check.ferry("belt sum 1 15;horse 15 5 0;horse 12 99 0;tide 20,9;");
        twice(y, 0, 75, at(0), at(0));
    }

    private static void thenTheFirstOfBoth() {
        Check.about("of like ones the first (the first CROSSING's PLACES, then the other's)");
        twice(Check.ferry("belt sum 1 20;" + "horse 10 9 0;".repeat(6)), 0, 40, at(0), at(0));
        twice(Check.ferry("belt sum 1 20;" + "horse 10 2 0;".repeat(6)), 0, 40, at(0), at(1));
        twice(Check.ferry("belt sum 3 20;" + "horse 10 2 0;".repeat(6)), 0, 40, at(NONE, NONE, 0), at(NONE, NONE, 1));
        twice(Check.ferry("belt sum 2 20;horse 3 9 0;horse 10 9 0;horse 10 2 0;due 2;"), 0, 40, at(NONE, 1), at(NONE, 1));
        twice(Check.ferry("belt sum 1 20;horse 10 2 0;horse 10 9 0;due 2;"), 0, 40, at(0), at(1));
        twice(Check.ferry("belt sum 1 20;horse 10 9 0;horse 10 2 0;due 2;"), 0, 40, at(0), at(0));
    }

    private static void waitBounds() {
        Check.about("WAIT: what = 0 hours, 1 minutes; NONE. OUTSIDE");
        OatFerry x = Check.ferry("belt sum 1 30;horse 30 50 0;tide 20,35;");
        Check.due("hours", x.best(1, 0), 1);
        Check.due("minutes", x.best(1, 1), 1);
        Check.each("what: best", what -> x.best(0, what), OUTSIDE, -1, 2, LEAST, MOST);
        Check.each("load: best", load -> x.best(load, 0), OUTSIDE, -1, 241, LEAST, MOST);
        Check.each("load: best", load -> x.best(load, 1), OUTSIDE, -1, 241);
        Check.due("a LOAD of 44", x.best(44, 1), 30);
        Check.each("NONE: best", load -> x.best(load, 0), NONE, 45, 240);
        Check.each("NONE: best", load -> x.best(load, 1), NONE, 45, 240);
        OatFerry none = new OatFerry();
        Check.each("no ferry: best", what -> none.best(0, what), NONE, 0, 1);
        Check.each("no ferry: best", what -> none.best(0, what), OUTSIDE, -1, 2);
    }

    private static void elevenHours() {
        Check.about("hours to rest (0 .. 11)");
        for (int needs = 1; needs <= 13; needs++) {
            OatFerry x = Check.ferry("belt sum 1 " + 10 * needs + ";horse 10 20 1;");
            x.put(0, 0);
            x.cross(240);
            Check.due("lame", x.told(12), 1);
            Check.due("hours for strength " + needs, x.best(0, 0), needs <= 11 ? needs : NONE);
            Check.due("minutes then", x.best(0, 1), needs <= 11 ? needs : NONE);
        }
        for (int hour = 1; hour <= 12; hour++) {
            StringBuilder tides = new StringBuilder();
            for (int i = 0; i < 12; i++) {
                tides.append(i == 0 ? "" : ",").append(i == hour ? 30 : 20);
            }
            OatFerry x = Check.ferry("belt sum 1 20;horse 10 20 0;tide " + tides + ";");
            Check.due("hours for the tide of " + hour, x.best(0, 0), hour % 12);
            Check.due("minutes then", x.best(0, 1), hour < 12 ? 1 : 2);
        }
    }

    private static void fewestHours() {
        Check.about("WAIT: of like ones the fewest hours");
        OatFerry x = Check.ferry("belt sum 1 40;horse 10 20 0;tide 20,20,25,25,26,24;");
        Check.due("hours", x.best(0, 0), 2);
        Check.due("minutes", x.best(0, 1), 3);
        OatFerry y = Check.ferry("belt sum 1 20;horse 10 20 0;");
        Check.due("not at all", y.best(0, 0), 0);
        Check.due("minutes", y.best(0, 1), 2);
        OatFerry z = Check.ferry("belt sum 1 20;horse 10 20 0;tide 10,20,19;");
        Check.due("the first that lands", z.best(0, 0), 1);
        Check.due("minutes", z.best(0, 1), 2);
    }

    private static void waitIsFromNow() {
        Check.about("by the tide and by STRENGTHS of then");
        OatFerry x = Check.ferry("belt sum 1 20;horse 10 20 3;horse 1 200 0;tide 20,20,20,40;");
        Check.due("hour 0", x.best(0, 0), 3);
        x.rest(3);
        Check.due("hour 3", x.best(0, 0), 0);
        x.rest(1);
        Check.due("hour 4", x.best(0, 0), 3);
        OatFerry y = Check.ferry("belt sum 1 20;horse 10 20 1;horse 1 200 0;");
        y.put(0, 0);
        y.cross(240);
        Check.due("now: the weak one alone", y.soonest(0, NONE), 20);
        Check.due("two hours: the strong one again", y.best(0, 0), 2);
        Check.due("minutes", y.best(0, 1), 2);
        Check.due("the strength of now", y.horse(0, 4), 0);
        Check.due("the hour of now", y.told(7), 1);
    }

    private static void worthBounds() {
        Check.about("WORTH. UNKNOWN, OUTSIDE");
        OatFerry x = Check.ferry("belt sum 1 30;horse 30 50 0;horse 15 50 0;");
        Check.due("worth(0, 0)", x.worth(0, 0), 1);
        Check.due("worth(0, 1)", x.worth(0, 1), 0);
        Check.each("h: worth", h -> x.worth(0, h), UNKNOWN, -1, -2, 2, 6, LEAST, MOST);
        Check.each("UNKNOWN ahead of OUTSIDE: worth", h -> x.worth(241, h), UNKNOWN, -1, 2);
        Check.each("load: worth", load -> x.worth(load, 1), OUTSIDE, -1, 241, LEAST, MOST);
        Check.due("a LOAD of 29", x.worth(29, 0), 121 - 30);
        Check.each("none is over: worth", load -> x.worth(load, 0), 0, 30, 240);
        Check.due("no ferry: worth(0, 0)", new OatFerry().worth(0, 0), UNKNOWN);
    }

    private static void missedCountsOneMore() {
        Check.about("WORTH: MISSED counts 121");
        Check.due("the only one, at once", Check.ferry("belt sum 1 1;horse 1 1 0;").worth(0, 0), 120);
        Check.due("in 119", Check.ferry("belt sum 1 119;horse 1 200 0;").worth(0, 0), 2);
        Check.due("in 120", Check.ferry("belt sum 1 120;horse 1 200 0;").worth(0, 0), 1);
        Check.due("never", Check.ferry("belt sum 1 121;horse 1 200 0;").worth(0, 0), 0);
        OatFerry pair = Check.ferry("belt sum 2 40;horse 10 50 0;horse 10 50 0;beside 0 1 10;beside 1 0 10;");
        Check.due("each for the other's mood", pair.worth(0, 0), 2);
        Check.due("each for the other's mood", pair.worth(0, 1), 2);
        OatFerry lame = Check.ferry("belt sum 2 40;horse 10 50 0;horse 10 1 0;beside 0 1 10;");
        lame.put(1, 0);
        lame.cross(240);
        Check.due("a lame one for its mood", lame.worth(0, 1), 1);
        OatFerry many = Check.ferry("belt sum 1 20;" + "horse 10 50 0;".repeat(5) + "horse 20 50 0;");
        for (int h = 0; h < 6; h++) {
            Check.due("one of many: " + h, many.worth(0, h), h == 5 ? 1 : 0);
        }
    }

    private static void row(String text, int... sets) {
        OatFerry x = Check.ferry(text);
        Check.due("carts(NONE) of " + text, x.carts(NONE), sets.length);
        for (int i = 0; i < 5; i++) {
            Check.due("carts(" + i + ") of " + text, x.carts(i), i < sets.length ? sets[i] : NONE);
        }
        Check.each("carts of " + text, x::carts, NONE, -2, 4, 5, LEAST, MOST);
    }

    private static void cartBounds() {
        Check.about("i = NONE how many CROSSINGS, else the i-th SET; NONE: not so many");
        row("belt sum 1 20;horse 12 200 0;");
        row("belt sum 1 20;");
        row("belt sum 1 20;horse 12 200 0;cart 0;", 1);
        row("belt sum 1 20;horse 12 200 0;cart 11;", 1);
        row("belt sum 1 20;horse 12 200 0;cart 11;cart 11;", 1, 2);
        row("belt sum 1 20;horse 12 200 0;cart 11;cart 11;cart 11;", 1, 2, 4);
        row("belt sum 1 20;horse 12 200 0;cart 11;cart 11;cart 11;cart 11;", 1, 2, 4, 8);
        OatFerry none = new OatFerry();
        Check.due("no ferry: none to take, no CROSSING", none.carts(NONE), 0);
        Check.each("no ferry: carts", none::carts, NONE, 0, 1, -2);
    }

    private static void fewestCrossings() {
        Check.about("the fewest CROSSINGS for all");
        row("belt sum 1 20;horse 12 200 0;cart 2;cart 3;cart 3;cart 3;", 15);
        row("belt sum 1 20;horse 12 200 0;cart 3;cart 3;cart 3;cart 3;", 1, 14);
        row("belt sum 1 20;horse 12 200 0;cart 5;cart 6;cart 7;", 3, 4);
        row("belt sum 1 20;horse 12 200 0;cart 6;cart 5;cart 5;cart 6;", 3, 12);
        row("belt sum 1 20;horse 12 200 0;cart 11;cart 1;cart 10;cart 0;", 1, 14);
        row("belt sum 3 20;horse 30 9 0;horse 30 9 0;horse 30 9 0;beside 0 1 10;beside 0 2 10;beside 1 0 10;beside 2 0 10;"
                + "tide 40;cart 30;cart 30;cart 30;cart 30;", 15);
    }

    private static void noneEmpty() {
        Check.about("none empty");
        // By waiting an hour the tide would take both: no CROSSING without a CART is made for it.
        row("belt sum 1 20;horse 12 200 0;cart 9;cart 9;tide 20,40;", 1, 2);
        row("belt sum 1 20;horse 12 200 0;cart 20;tide 30,40;", 1);
        Check.due("too heavy for now", Check.ferry("belt sum 1 20;horse 12 200 0;cart 20;tide 20,40;").carts(NONE), NONE);
        row("belt sum 1 20;horse 12 200 0;cart 0;cart 0;", 3);
        row("belt sum 1 20;horse 12 200 0;cart 0;cart 20;tide 20,40;", 1, 2);
    }

    private static void lesserSetFirst() {
        Check.about("of like ones the first row of SETS (the lesser SET first)");
        row("belt sum 1 20;horse 13 200 0;cart 6;cart 6;cart 6;", 1, 6);
        row("belt sum 1 20;horse 12 200 0;cart 6;cart 5;cart 4;cart 3;", 3, 12);
        row("belt sum 1 20;horse 12 200 0;cart 10;cart 1;cart 1;cart 1;", 1, 14);
        row("belt sum 1 20;horse 12 200 0;cart 9;cart 9;cart 2;cart 2;", 5, 10);
    }

    private static void theHourAndRestsGoOn() {
        Check.about("THE HOUR and rests going on");
        row("belt sum 1 20;horse 12 200 0;cart 5;cart 20;tide 20,40;", 1, 2);
        row("belt sum 1 20;horse 12 200 0;cart 30;cart 5;tide 40,20;", 1, 2);
        row("belt sum 1 20;horse 12 200 0;cart 5;cart 30;tide 40,20;", 2, 1);
        OatFerry later = Check.ferry("belt sum 1 20;horse 12 200 0;cart 5;cart 30;tide 40,20;");
        later.rest(1);
        Check.due("an hour later", later.carts(0), 1);
        row("belt sum 1 20;horse 12 20 20;horse 12 20 20;cart 11;cart 11;cart 11;cart 11;", 1, 2, 4, 8);
        Check.due("who stood does not rest", Check.ferry("belt sum 1 20;horse 12 20 20;cart 11;cart 11;").carts(NONE), NONE);
        Check.due("19 come back, 20 are needed",
                Check.ferry("belt sum 1 20;horse 12 20 19;horse 12 20 19;cart 11;cart 11;cart 11;").carts(NONE), NONE);
        Check.due("20 come back",
                Check.ferry("belt sum 1 20;horse 12 20 20;horse 12 20 20;cart 11;cart 11;cart 11;").carts(NONE), 3);
    }

    private static void asSoonestTells() {
        Check.about("HORSES at each as SOONEST tells then");
        // The other one could take the first cart, but SOONEST takes the strong one, that the second needs.
        row("belt sum 1 20;horse 20 2 0;horse 10 99 0;cart 5;cart 10;", 2, 1);
        // M is not asked for: SOONEST has no time to keep.
        row("belt sum 1 20;horse 10 99 0;cart 5;due 1;", 1);
    }

    private static void noSuchRow() {
        Check.about("NONE: there is no such row");
        for (String text : new String[] {"belt sum 1 20;horse 12 200 0;cart 12;", "belt sum 1 20;cart 0;",
            "belt sum 1 20;horse 12 200 0;cart 1;cart 12;", "belt sum 1 20;horse 12 39 0;cart 11;cart 11;",
            "belt sum 1 121;horse 1 200 60;cart 0;"}) {
            OatFerry x = Check.ferry(text);
            Check.each("carts of " + text, x::carts, NONE, NONE, 0, 1, 4);
        }
        row("belt sum 1 20;horse 12 40 0;cart 11;cart 11;", 1, 2);
    }

    private static void tryingChangesNothing() {
        Check.about("TRIED: nothing is so by it");
        OatFerry x = Check.ferry("belt sum 2 30;horse 10 30 2;horse 5 40 3;tide 20,30;cart 3;cart 9;");
        x.put(1, 0);
        x.cross(0);
        int[] ahead = whatIsSo(x);
        x.trial(0, 0);
        x.trial(240, 1);
        x.soonest(0, NONE);
        x.cheapest(0, NONE);
        x.twice(0, 0, NONE);
        x.best(0, 0);
        x.worth(0, 1);
        x.carts(NONE);
        int[] behind = whatIsSo(x);
        for (int i = 0; i < ahead.length; i++) {
            Check.due("number " + i, behind[i], ahead[i]);
        }
    }

    private static int[] whatIsSo(OatFerry x) {
        return new int[] {x.told(7), x.told(8), x.told(9), x.told(12), x.at(0), x.at(1), x.horse(0, 4), x.horse(1, 4),
            x.horse(0, 5), x.horse(1, 5), x.horse(1, 6), x.goBack(0), x.told(10)};
    }
}
