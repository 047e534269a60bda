/** Promises 15 to 20: soonest, cheapest, twice, best, worth, carts. */
public final class TriedTest {
    private static final int UNKNOWN = OatFerry.UNKNOWN, OUTSIDE = OatFerry.OUTSIDE;

    public static void main(String[] args) {
        soonest();
        cheapest();
        refusals();
        twice();
        waiting();
        worth();
        carts();
        whatIsKeptIsForgotten();
        Check.end();
    }

    private static void soonest() {
        OatFerry x = Check.ferry("belt sum 2 20;horse 10 50 5;horse 10 50 5;horse 5 50 5;");
        Check.due("minutes", x.soonest(0, -1), 1);
        Check.due("oats", x.soonest(0, -2), 20);
        Check.due("place 0", x.soonest(0, 0), 0);
        Check.due("place 1", x.soonest(0, 1), 1);
        Check.due("none is over", x.soonest(20, -1), -1);
        Check.due("nobody then", x.soonest(20, 0), -1);
        Check.due("nothing changed", x.at(0), -1);
        OatFerry y = Check.ferry("belt sum 3 10;horse 10 50 5;horse 12 50 5;horse 10 50 5;");
        Check.due("least oats of like minutes", y.soonest(0, -2), 10);
        Check.due("nobody ahead of all", y.soonest(0, 0), -1);
        Check.due("nobody at 1", y.soonest(0, 1), -1);
        Check.due("the lesser horse at 2", y.soonest(0, 2), 0);
        y.put(0, 0);
        y.cross(240);
        Check.due("a tired one is left: the next", y.soonest(0, 2), 2);
        OatFerry z = Check.ferry("belt sum 2 40;horse 10 9 0;horse 1 1 0;beside 0 1 10;");
        z.put(1, 0);
        z.cross(0);
        Check.due("a lame one stands beside for its mood", z.soonest(0, -1), 3);
        Check.due("the lame one behind", z.soonest(0, 1), 1);
    }

    private static void cheapest() {
        String horses = "belt sum 1 20;horse 11 9 0;horse 1 99 0;";
        OatFerry x = Check.ferry(horses + "due 19;");
        Check.due("not in time", x.cheapest(0, -1), 22);
        Check.due("minutes", x.cheapest(0, -2), 2);
        Check.due("who", x.cheapest(0, 0), 0);
        OatFerry y = Check.ferry(horses + "due 20;");
        Check.due("just in time", y.cheapest(0, -1), 20);
        Check.due("minutes", y.cheapest(0, -2), 20);
        Check.due("who", y.cheapest(0, 0), 1);
        OatFerry z = Check.ferry("belt sum 2 20;horse 5 50 0;horse 10 50 5;horse 10 50 5;");
        Check.due("oats", z.cheapest(0, -1), 20);
        Check.due("the fewest minutes of like oats", z.cheapest(0, -2), 1);
        Check.due("the first", z.cheapest(0, 0), 1);
        Check.due("the first", z.cheapest(0, 1), 2);
        OatFerry none = Check.ferry("belt sum 1 20;horse 10 50 0;due 1;");
        Check.due("none in time", none.cheapest(0, -1), -1);
        Check.due("but soonest", none.soonest(0, -1), 2);
        Check.due("due untold: 60", Check.ferry("belt sum 1 60;horse 1 200 0;").cheapest(0, -2), 60);
        Check.due("due untold: 61", Check.ferry("belt sum 1 61;horse 1 200 0;").cheapest(0, -2), -1);
    }

    private static void refusals() {
        OatFerry x = Check.ferry("belt sum 2 20;horse 10 50 5;");
        Check.due("soonest(0, 2)", x.soonest(0, 2), UNKNOWN);
        Check.due("soonest(0, -3)", x.soonest(0, -3), UNKNOWN);
        Check.due("soonest(241, 2)", x.soonest(241, 2), UNKNOWN);
        Check.due("soonest(241, 1)", x.soonest(241, 1), OUTSIDE);
        Check.due("soonest(-1, -1)", x.soonest(-1, -1), OUTSIDE);
        Check.due("cheapest(0, 2)", x.cheapest(0, 2), UNKNOWN);
        Check.due("cheapest(-1, -3)", x.cheapest(-1, -3), UNKNOWN);
        Check.due("cheapest(241, -2)", x.cheapest(241, -2), OUTSIDE);
        Check.due("twice(0, 0, -2)", x.twice(0, 0, -2), UNKNOWN);
        Check.due("twice(241, 2, 2)", x.twice(241, 2, 2), UNKNOWN);
        Check.due("twice(0, 2, -1)", x.twice(0, 2, -1), OUTSIDE);
        Check.due("twice(0, -1, 0)", x.twice(0, -1, 0), OUTSIDE);
        Check.due("twice(241, 0, 0)", x.twice(241, 0, 0), OUTSIDE);
        Check.due("best(241, 0)", x.best(241, 0), OUTSIDE);
        Check.due("best(0, 2)", x.best(0, 2), OUTSIDE);
        Check.due("best(0, -1)", x.best(0, -1), OUTSIDE);
        Check.due("worth(241, 1)", x.worth(241, 1), UNKNOWN);
        Check.due("worth(0, -1)", x.worth(0, -1), UNKNOWN);
        Check.due("worth(241, 0)", x.worth(241, 0), OUTSIDE);
        OatFerry none = new OatFerry();
        Check.due("new: soonest(0, 0)", none.soonest(0, 0), UNKNOWN);
        Check.due("new: cheapest(0, -1)", none.cheapest(0, -1), -1);
        Check.due("new: twice(0, 0, -1)", none.twice(0, 0, -1), -1);
        Check.due("new: best(0, 0)", none.best(0, 0), -1);
        Check.due("new: worth(0, 0)", none.worth(0, 0), UNKNOWN);
        Check.due("new: carts(-1)", none.carts(-1), 0);
        Check.due("new: carts(0)", none.carts(0), -1);
    }

    private static void twice() {
        OatFerry x = Check.ferry("belt sum 1 20;horse 10 3 1;horse 10 9 9;due 2;");
        Check.due("oats of both", x.twice(0, 0, -1), 40);
        Check.due("the first", x.twice(0, 0, 0), 0);
        Check.due("the other", x.twice(0, 1, 0), 1);
        Check.due("too heavy", x.twice(1, 0, -1), -1);
        Check.due("nobody then", x.twice(1, 1, 0), -1);
        OatFerry fresh = Check.ferry("belt sum 1 20;horse 10 4 1;horse 10 9 9;due 2;");
        Check.due("one has strength for both", fresh.twice(0, 1, 0), 0);
        OatFerry alone = Check.ferry("belt sum 1 20;horse 10 2 2;due 2;");
        Check.due("who stood does not rest", alone.twice(0, 0, -1), -1);
        OatFerry rests = Check.ferry("belt sum 1 20;horse 10 2 0;horse 10 2 2;due 2;");
        rests.put(1, 0);
        rests.cross(0);
        Check.due("who did not stand rests", rests.twice(0, 0, -1), 40);
        Check.due("the first", rests.twice(0, 0, 0), 0);
        Check.due("the rested", rests.twice(0, 1, 0), 1);
        OatFerry tide = Check.ferry("belt sum 1 20;horse 10 200 0;horse 5 200 0;tide 20,25;due 3;");
        Check.due("the next hour's tide: 20 and 10", tide.twice(0, 0, -1), 30);
        Check.due("in time", tide.twice(0, 0, 0), 0);
        Check.due("cheaper", tide.twice(0, 1, 0), 1);
    }

    private static void waiting() {
        OatFerry x = Check.ferry("belt sum 1 100;horse 10 1 1;tide 20,25,40;");
        Check.due("for the tide", x.best(0, 0), 2);
        Check.due("minutes then", x.best(0, 1), 5);
        Check.due("none", x.best(30, 0), -1);
        Check.due("none", x.best(30, 1), -1);
        Check.due("the hour stays", x.told(7), 0);
        OatFerry y = Check.ferry("belt sum 1 100;horse 10 30 1;horse 1 1 0;");
        y.put(0, 0);
        y.cross(9);
        Check.due("for strength", y.best(0, 0), 10);
        Check.due("minutes then", y.best(0, 1), 10);
        OatFerry z = Check.ferry("belt sum 1 100;horse 10 30 0;");
        Check.due("not at all", z.best(0, 0), 0);
        z.put(0, 0);
        z.cross(9);
        Check.due("never rested", z.best(0, 0), -1);
        OatFerry far = Check.ferry("belt sum 1 10;horse 1 200 0;tide 20,20,20,20,20,20,20,20,20,20,20,29;");
        Check.due("eleven hours", far.best(0, 0), 11);
        far.rest(11);
        Check.due("now", far.best(0, 0), 0);
        far.rest(1);
        Check.due("eleven again, by coming round", far.best(0, 1), 1);
    }

    private static void worth() {
        OatFerry x = Check.ferry("belt sum 1 20;horse 10 9 0;horse 5 9 0;");
        Check.due("the stronger", x.worth(0, 0), 2);
        Check.due("the other", x.worth(0, 1), 0);
        Check.due("alone able", x.worth(6, 0), 121 - 5);
        Check.due("neither is able", x.worth(10, 0), 0);
        Check.due("the only one", Check.ferry("belt sum 1 20;horse 10 9 0;").worth(0, 0), 119);
    }

    private static void row(String text, int... sets) {
        OatFerry x = Check.ferry(text);
        Check.due("carts(-1) of " + text, x.carts(-1), sets.length);
        for (int i = 0; i < 5; i++) {
            Check.due("carts(" + i + ") of " + text, x.carts(i), i < sets.length ? sets[i] : -1);
        }
        Check.due("carts(-2)", x.carts(-2), -1);
        Check.due("nothing changed", x.told(7), 0);
    }

    private static void carts() {
        row("belt sum 1 20;horse 12 200 0;");
        row("belt sum 1 20;horse 12 200 0;cart 0;cart 1;", 3);
        row("belt sum 1 20;horse 12 200 0;cart 5;cart 6;cart 7;", 3, 4);
        row("belt sum 1 20;horse 12 200 0;cart 11;cart 11;cart 11;cart 11;", 1, 2, 4, 8);
        row("belt sum 1 20;horse 12 200 0;cart 5;cart 20;tide 20,40;", 1, 2);
        row("belt sum 1 20;horse 12 200 0;cart 5;cart 30;tide 40,20;", 2, 1);
        OatFerry none = Check.ferry("belt sum 1 20;horse 12 200 0;cart 1;cart 12;");
        Check.due("too heavy", none.carts(-1), -1);
        Check.due("no row", none.carts(0), -1);
        OatFerry tired = Check.ferry("belt sum 1 20;horse 12 30 0;cart 11;cart 11;");
        Check.due("40 minutes are too many", tired.carts(-1), -1);
        OatFerry two = Check.ferry("belt sum 1 20;horse 12 30 0;horse 12 30 0;cart 11;cart 11;");
        Check.due("another walks then", two.carts(-1), 2);
        OatFerry rested = Check.ferry("belt sum 1 20;horse 12 20 20;horse 12 20 20;cart 11;cart 11;cart 11;cart 11;");
        Check.due("by turns", rested.carts(-1), 4);
    }

    /** Each change comes right behind an answer that it makes another one. */
    private static void whatIsKeptIsForgotten() {
        OatFerry x = Check.ferry("belt sum 1 20;horse 10 5 5;cart 2;tide 20,29,20;due 9;");
        x.keep(0);
        x.put(0, 0);
        twiceAndCarts(x, "fresh", 40, 1);
        Check.due("another load", x.twice(1, 0, -1), 50);
        twiceAndCarts(x, "the load again", 40, 1);
        x.cross(240);
        twiceAndCarts(x, "lame, and the tide turns behind an hour", -1, 1);
        x.rest(1);
        twiceAndCarts(x, "rested", 40, 1);
        x.cross(240);
        twiceAndCarts(x, "lame at slack tide", -1, -1);
        x.goBack(0);
        twiceAndCarts(x, "gone back", 40, 1);
        x.cross(240);
        x.rest(2);
        twiceAndCarts(x, "at hour 3", 40, 1);
        x.seed(0);
        x.drift(1);
        Check.due("the draws made it stand and walk", x.told(12), 1);
        Check.due("drifted: carts", x.carts(-1), x.told(11) > 2 ? 1 : -1);
        x.goBack(0);
        twiceAndCarts(x, "gone back", 40, 1);
        Check.feed(x, "belt sum 1 20;horse 9 200 0;cart 60;");
        x.ferry();
        twiceAndCarts(x, "another ferry", 54, -1);
    }

    private static void twiceAndCarts(OatFerry x, String when, int oats, int crossings) {
        Check.due(when + ": twice", x.twice(0, 0, -1), oats);
        Check.due(when + ": carts", x.carts(-1), crossings);
    }
}
