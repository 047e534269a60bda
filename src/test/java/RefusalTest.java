import java.util.ArrayList;
import java.util.List;
import java.util.function.Supplier;
import java.util.function.ToIntFunction;

/**
 * What is refused changes nothing. Of two objects made alike one is asked what is refused; behind it both are
 * asked for everything that can be seen, and answer alike. So it is for calls that only look, and for a faulty text.
 */
public final class RefusalTest {
    private static final int NONE = OatFerry.NONE, UNKNOWN = OatFerry.UNKNOWN, OUTSIDE = OatFerry.OUTSIDE;
    private static final int NOT = OatFerry.NOT, FULL = OatFerry.FULL;
    private static final int LEAST = Integer.MIN_VALUE, MOST = Integer.MAX_VALUE;
    private static final String SIX = "belt sum 3 90;horse 10 30 3;horse 12 25 2;horse 9 40 9;horse 14 20 1;horse 8 60 5;"
            + "horse 11 35 0;beside 0 2 9;beside 2 0 2;beside 4 5 8;blind 3;tide 20,27,15;cart 4;cart 6;cart 20;cart 9;due 30;";
    private static final String SOME_TEXT = "belt sum 1 7;hor";
    private static final String ITS_REST = "se 3 4 5;";

    private final String name;
    private final Supplier<OatFerry> making;
    private final List<String> calls = new ArrayList<>();
    private final List<Integer> answers;

    private RefusalTest(String name, Supplier<OatFerry> making) {
        this.name = name;
        this.making = making;
        answers = everything(making.get());
    }

    public static void main(String[] args) {
        Check.about("What is refused changes nothing");
        RefusalTest fresh = new RefusalTest("no ferry", OatFerry::new);
        RefusalTest horseless = new RefusalTest("no horses", RefusalTest::horseless);
        RefusalTest midway = new RefusalTest("midway", RefusalTest::midway);
        RefusalTest deserted = new RefusalTest("nobody stands", RefusalTest::deserted);
        RefusalTest filled = new RefusalTest("full", RefusalTest::filled);
        RefusalTest fourLeft = new RefusalTest("496 bytes", RefusalTest::fourBytesLeft);
        for (RefusalTest each : List.of(fresh, horseless, midway, deserted, filled)) {
            each.outsideAnyhow();
            each.unknownAnyhow();
            each.looksChangeNothing();
        }
        fresh.nothingThere();
        horseless.noHorses();
        midway.withSixHorses();
        midway.somebodyElseIsThere();
        deserted.withSixHorses();
        deserted.nobodyStands();
        filled.full();
        filled.withSixHorses();
        fourLeft.fullForMoreThanFour();
        faultyTexts();
        Check.end();
    }

    private static OatFerry horseless() {
        OatFerry x = Check.ferry("belt slowest 2 50;tide 30,10;cart 5;");
        x.rest(3);
        x.seed(8);
        x.keep(0);
        x.rest(1);
        Check.feed(x, SOME_TEXT);
        return x;
    }

    private static OatFerry midway() {
        OatFerry x = withoutText();
        Check.feed(x, SOME_TEXT);
        return x;
    }

    /** Two stand, one is lame, one landing was missed, IMAGE 0 is kept, times are told, the latest text had a fault. */
    private static OatFerry withoutText() {
        OatFerry x = Check.ferry(SIX);
        x.seed(41);
        x.put(3, 1);
        x.cross(200);
        x.keep(0);
        x.put(3, NONE);
        x.put(0, 0);
        x.put(5, 2);
        x.cross(3);
        x.tell(0, 2, NONE, 1, 4);
        x.tell(NONE, 4, 5, 0, 0);
        x.seed(1234567);
        x.feed(2, ' ' << 8 | 'x');
        x.ferry();
        return x;
    }

    private static OatFerry deserted() {
        OatFerry x = withoutText();
        x.keep(1);
        x.put(0, NONE);
        x.put(5, NONE);
        Check.feed(x, SOME_TEXT);
        return x;
    }

    private static OatFerry filled() {
        OatFerry x = withoutText();
        x.keep(1);
        x.rest(1);
        tellTenThatAreSo(x);
        String text = "belt sum 2 77;horse 3 4 5;";
        Check.feed(x, text + " ".repeat(500 - text.length() - 6) + "due 9;");
        return x;
    }

    /** At slack tide 2 takes 10 minutes, 4 takes 12: one that is changed would be found wrong. */
    private static void tellTenThatAreSo(OatFerry x) {
        x.tear();
        for (int i = 0; i < 9; i++) {
            x.tell(2, NONE, NONE, 3 * i, 10);
        }
        x.tell(NONE, NONE, 4, 99, 12);
        Check.due("ten times told", x.told(10), 10);
        Check.due("all are so", x.judge(), NONE);
    }

    private static OatFerry fourBytesLeft() {
        OatFerry x = withoutText();
        String text = "belt sum 2 77;horse 3 4 5;";
        Check.feed(x, text + " ".repeat(496 - text.length() - 5) + "due 9");
        Check.due("told(6)", x.told(6), 496);
        return x;
    }

    private void note(List<Integer> into, String call, int answer) {
        if (into.size() == calls.size()) {
            calls.add(call);
        }
        into.add(answer);
    }

    /** All that can be seen: first what is so, then the seed, both images, days by draws, and the text. */
    private List<Integer> everything(OatFerry x) {
        List<Integer> seen = new ArrayList<>();
        ferryAndState(seen, x);
        tried(seen, x);
        for (int h = 0; h < 6; h++) {
            note(seen, "pulls(" + h + ")", x.pulls(h));
        }
        note(seen, "sham()", x.sham());
        note(seen, "judge()", x.judge());
        note(seen, "seed(5)", x.seed(5));
        for (int i = 0; i < 2; i++) {
            note(seen, "goBack(" + i + ")", x.goBack(i));
            state(seen, x);
            note(seen, "seed(5)", x.seed(5));
        }
        note(seen, "drift(2)", x.drift(2));
        state(seen, x);
        note(seen, "seed(5)", x.seed(5));
        note(seen, "tear()", x.tear());
        Check.feed(x, ITS_REST);
        note(seen, "ferry()", x.ferry());
        note(seen, "fault() of the text", x.fault());
        state(seen, x);
        return seen;
    }

    private void ferryAndState(List<Integer> seen, OatFerry x) {
        note(seen, "fault()", x.fault());
        state(seen, x);
        for (int h = 0; h < 6; h++) {
            for (int what = 0; what < 4; what++) {
                note(seen, "horse(" + h + ", " + what + ")", x.horse(h, what));
            }
            for (int other = 0; other < 6; other += 2) {
                note(seen, "beside(" + h + ", " + other + ")", x.beside(h, other));
            }
        }
        for (int c = 0; c < 4; c++) {
            note(seen, "cart(" + c + ")", x.cart(c));
        }
    }

    private void state(List<Integer> seen, OatFerry x) {
        for (int what = 0; what <= 12; what++) {
            note(seen, "told(" + what + ")", x.told(what));
        }
        for (int p = 0; p < 3; p++) {
            note(seen, "at(" + p + ")", x.at(p));
        }
        for (int h = 0; h < 6; h++) {
            note(seen, "horse(" + h + ", 4)", x.horse(h, 4));
            note(seen, "horse(" + h + ", 6)", x.horse(h, 6));
        }
    }

    private void tried(List<Integer> seen, OatFerry x) {
        for (int load = 0; load <= 9; load += 9) {
            note(seen, "trial(" + load + ", 0)", x.trial(load, 0));
            note(seen, "trial(" + load + ", 1)", x.trial(load, 1));
            for (int p = -2; p < 3; p++) {
                note(seen, "soonest(" + load + ", " + p + ")", x.soonest(load, p));
                note(seen, "cheapest(" + load + ", " + p + ")", x.cheapest(load, p));
            }
            for (int p = -1; p < 3; p++) {
                note(seen, "twice(" + load + ", 0, " + p + ")", x.twice(load, 0, p));
                note(seen, "twice(" + load + ", 1, " + p + ")", x.twice(load, 1, p));
            }
            note(seen, "best(" + load + ", 0)", x.best(load, 0));
            note(seen, "best(" + load + ", 1)", x.best(load, 1));
            for (int h = 0; h < 6; h += 2) {
                note(seen, "worth(" + load + ", " + h + ")", x.worth(load, h));
            }
        }
        for (int i = -1; i < 4; i++) {
            note(seen, "carts(" + i + ")", x.carts(i));
        }
    }

    private void refused(String call, int refusal, ToIntFunction<OatFerry> ask) {
        OatFerry x = making.get();
        Check.due(name + ": " + call, ask.applyAsInt(x), refusal);
        alike(call, everything(x), false);
    }

    private void alike(String call, List<Integer> seen, boolean faultAside) {
        Check.due(name + ": how many answers", seen.size(), answers.size());
        for (int i = faultAside ? 1 : 0; i < answers.size(); i++) {
            Check.due(name + ": behind " + call + ": " + calls.get(i), seen.get(i), answers.get(i));
        }
    }

    private void each(String call, int refusal, ToIntFunction<OatFerry> least, ToIntFunction<OatFerry> most) {
        refused(call + ", too small", refusal, least);
        refused(call + ", too large", refusal, most);
    }

    private void outsideAnyhow() {
        each("feed(n)", OUTSIDE, x -> x.feed(0, 65), x -> x.feed(9, 65));
        each("feed(n), far", OUTSIDE, x -> x.feed(LEAST, 65), x -> x.feed(MOST, 65));
        each("told(what)", OUTSIDE, x -> x.told(-1), x -> x.told(13));
        each("cross(load)", OUTSIDE, x -> x.cross(-1), x -> x.cross(241));
        each("trial(load)", OUTSIDE, x -> x.trial(-1, 0), x -> x.trial(241, 0));
        each("trial(what)", OUTSIDE, x -> x.trial(0, -1), x -> x.trial(0, 2));
        each("rest(n)", OUTSIDE, x -> x.rest(0), x -> x.rest(100));
        each("rest(n), far", OUTSIDE, x -> x.rest(LEAST), x -> x.rest(MOST));
        each("drift(n)", OUTSIDE, x -> x.drift(0), x -> x.drift(100));
        each("soonest(load)", OUTSIDE, x -> x.soonest(-1, NONE), x -> x.soonest(241, -2));
        each("cheapest(load)", OUTSIDE, x -> x.cheapest(-1, NONE), x -> x.cheapest(241, -2));
        each("twice(load)", OUTSIDE, x -> x.twice(-1, 0, NONE), x -> x.twice(241, 0, NONE));
        each("twice(k)", OUTSIDE, x -> x.twice(0, -1, NONE), x -> x.twice(0, 2, NONE));
        each("best(load)", OUTSIDE, x -> x.best(-1, 0), x -> x.best(241, 0));
        each("best(what)", OUTSIDE, x -> x.best(0, -1), x -> x.best(0, 2));
        each("tell(hour)", OUTSIDE, x -> x.tell(NONE, NONE, NONE, -1, 1), x -> x.tell(NONE, NONE, NONE, 100, 1));
        each("tell(minutes)", OUTSIDE, x -> x.tell(NONE, NONE, NONE, 0, -1), x -> x.tell(NONE, NONE, NONE, 0, 121));
        each("seed(v)", OUTSIDE, x -> x.seed(-1), x -> x.seed(LEAST));
    }

    private void unknownAnyhow() {
        each("horse(h)", UNKNOWN, x -> x.horse(-1, 0), x -> x.horse(6, 0));
        each("horse(h) ahead of what", UNKNOWN, x -> x.horse(-1, 7), x -> x.horse(6, -1));
        each("beside(a)", UNKNOWN, x -> x.beside(-1, 0), x -> x.beside(6, 0));
        each("beside(b)", UNKNOWN, x -> x.beside(0, -1), x -> x.beside(0, 6));
        refused("beside, one twice", UNKNOWN, x -> x.beside(1, 1));
        each("cart(c)", UNKNOWN, x -> x.cart(-1), x -> x.cart(4));
        each("put(h)", UNKNOWN, x -> x.put(-1, 1), x -> x.put(6, 1));
        each("put(h) away", UNKNOWN, x -> x.put(-1, NONE), x -> x.put(6, NONE));
        each("put(p)", UNKNOWN, x -> x.put(0, -2), x -> x.put(0, 3));
        each("at(p)", UNKNOWN, x -> x.at(-1), x -> x.at(3));
        each("soonest(p)", UNKNOWN, x -> x.soonest(0, -3), x -> x.soonest(241, 3));
        each("cheapest(p)", UNKNOWN, x -> x.cheapest(0, -3), x -> x.cheapest(241, 3));
        each("twice(p)", UNKNOWN, x -> x.twice(0, 0, -2), x -> x.twice(241, 2, 3));
        each("worth(h)", UNKNOWN, x -> x.worth(0, -1), x -> x.worth(241, 6));
        each("tell(first)", UNKNOWN, x -> x.tell(-2, NONE, NONE, 0, 0), x -> x.tell(6, NONE, NONE, 100, 0));
        each("tell(second)", UNKNOWN, x -> x.tell(NONE, -2, NONE, 0, 0), x -> x.tell(NONE, 6, NONE, 0, 121));
        each("tell(third)", UNKNOWN, x -> x.tell(NONE, NONE, -2, 0, 0), x -> x.tell(NONE, NONE, 6, -1, -1));
        refused("tell, one twice", UNKNOWN, x -> x.tell(1, NONE, 1, 0, 0));
        each("pulls(h)", UNKNOWN, x -> x.pulls(-1), x -> x.pulls(6));
        each("keep(i)", UNKNOWN, x -> x.keep(-1), x -> x.keep(2));
        each("goBack(i)", UNKNOWN, x -> x.goBack(-1), x -> x.goBack(2));
    }

    private void looks(String call, ToIntFunction<OatFerry> ask) {
        OatFerry x = making.get();
        ask.applyAsInt(x);
        alike(call, everything(x), false);
    }

    private void looksChangeNothing() {
        looks("fault()", OatFerry::fault);
        looks("told(12)", x -> x.told(12));
        looks("horse(0, 6)", x -> x.horse(0, 6));
        looks("beside(0, 1)", x -> x.beside(0, 1));
        looks("cart(0)", x -> x.cart(0));
        looks("at(0)", x -> x.at(0));
        looks("trial(240, 1)", x -> x.trial(240, 1));
        looks("soonest(1, NONE)", x -> x.soonest(1, NONE));
        looks("cheapest(1, NONE)", x -> x.cheapest(1, NONE));
        looks("twice(1, 1, 0)", x -> x.twice(1, 1, 0));
        looks("best(1, 0)", x -> x.best(1, 0));
        looks("worth(1, 0)", x -> x.worth(1, 0));
        looks("carts(0)", x -> x.carts(0));
        looks("carts(-2)", x -> x.carts(-2));
        looks("pulls(0)", x -> x.pulls(0));
        looks("sham()", OatFerry::sham);
        looks("judge()", OatFerry::judge);
    }

    private void nothingThere() {
        refused("put(0, 0)", UNKNOWN, x -> x.put(0, 0));
        refused("put(0, NONE)", UNKNOWN, x -> x.put(0, NONE));
        refused("at(0)", UNKNOWN, x -> x.at(0));
        refused("cart(0)", UNKNOWN, x -> x.cart(0));
        refused("soonest(0, 0)", UNKNOWN, x -> x.soonest(0, 0));
        refused("cross(0)", NOT, x -> x.cross(0));
        refused("trial(0, 0)", NOT, x -> x.trial(0, 0));
        refused("drift(1)", NOT, x -> x.drift(1));
        refused("tell, nobody", NOT, x -> x.tell(NONE, NONE, NONE, 0, 0));
        refused("goBack(0)", NOT, x -> x.goBack(0));
        refused("goBack(1)", NOT, x -> x.goBack(1));
    }

    private void noHorses() {
        refused("put(0, 0)", UNKNOWN, x -> x.put(0, 0));
        refused("cart(1)", UNKNOWN, x -> x.cart(1));
        refused("at(2)", UNKNOWN, x -> x.at(2));
        refused("soonest(0, 2)", UNKNOWN, x -> x.soonest(0, 2));
        refused("soonest(241, 1)", OUTSIDE, x -> x.soonest(241, 1));
        refused("tell(0)", UNKNOWN, x -> x.tell(0, NONE, NONE, 0, 0));
        refused("cross(240)", NOT, x -> x.cross(240));
        refused("trial(240, 1)", NOT, x -> x.trial(240, 1));
        refused("drift(99)", NOT, x -> x.drift(99));
        refused("tell, nobody", NOT, x -> x.tell(NONE, NONE, NONE, 99, 120));
        refused("goBack(1)", NOT, x -> x.goBack(1));
    }

    private void withSixHorses() {
        each("horse(0, what)", OUTSIDE, x -> x.horse(0, -1), x -> x.horse(0, 7));
        each("soonest(load, 0)", OUTSIDE, x -> x.soonest(-1, 0), x -> x.soonest(241, 2));
        each("cheapest(load, 0)", OUTSIDE, x -> x.cheapest(-1, 0), x -> x.cheapest(241, 2));
        each("twice(load, 0, 0)", OUTSIDE, x -> x.twice(-1, 0, 0), x -> x.twice(241, 1, 2));
        each("twice(0, k, 0)", OUTSIDE, x -> x.twice(0, -1, 0), x -> x.twice(0, 2, 2));
        each("worth(load, 0)", OUTSIDE, x -> x.worth(-1, 0), x -> x.worth(241, 5));
        each("tell(0, hour)", OUTSIDE, x -> x.tell(0, NONE, NONE, -1, 1), x -> x.tell(0, 1, 2, 100, 1));
        each("tell(0, minutes)", OUTSIDE, x -> x.tell(0, NONE, NONE, 0, -1), x -> x.tell(0, 1, 2, 0, 121));
        refused("tell, nobody", NOT, x -> x.tell(NONE, NONE, NONE, 0, 0));
    }

    private void somebodyElseIsThere() {
        refused("put(1, 0)", NOT, x -> x.put(1, 0));
        refused("put(5, 0), from a place", NOT, x -> x.put(5, 0));
        refused("put(0, 2), from a place", NOT, x -> x.put(0, 2));
        refused("put(6, 0): UNKNOWN ahead of NOT", UNKNOWN, x -> x.put(6, 0));
        refused("goBack(1)", NOT, x -> x.goBack(1));
        looks("put(0, 0), where it is", x -> x.put(0, 0));
        looks("put(1, NONE), at no place", x -> x.put(1, NONE));
    }

    private void nobodyStands() {
        refused("cross(0)", NOT, x -> x.cross(0));
        refused("cross(240)", NOT, x -> x.cross(240));
        refused("trial(0, 0)", NOT, x -> x.trial(0, 0));
        refused("trial(240, 1)", NOT, x -> x.trial(240, 1));
    }

    private void full() {
        each("feed", FULL, x -> x.feed(1, ' '), x -> x.feed(8, -1L));
        refused("tell, an eleventh", FULL, x -> x.tell(0, NONE, NONE, 0, 0));
        refused("tell, an eleventh", FULL, x -> x.tell(0, 1, 2, 99, 120));
        refused("tell, nobody: NOT ahead of FULL", NOT, x -> x.tell(NONE, NONE, NONE, 0, 0));
        refused("tell, hour 100: OUTSIDE ahead of FULL", OUTSIDE, x -> x.tell(0, NONE, NONE, 100, 0));
        refused("tell, one twice: UNKNOWN ahead of FULL", UNKNOWN, x -> x.tell(0, 0, NONE, 0, 0));
    }

    private void fullForMoreThanFour() {
        long bytes = 0x3b78787878783b20L;
        for (int n = 5; n <= 8; n++) {
            int more = n;
            refused("feed(" + n + ")", FULL, x -> x.feed(more, bytes));
        }
        refused("feed(9): OUTSIDE ahead of FULL", OUTSIDE, x -> x.feed(9, bytes));
    }

    private static void faultyTexts() {
        Check.about("-10 less the number of its FAULT (all is as it was)");
        RefusalTest midway = new RefusalTest("without a text", RefusalTest::withoutText);
        String[] texts = {"x", "belt sum 1 0;", "belt sum 1 9;horse 1 1 1;belt", "belt sum 1 9;horse 1 1 1;blind 0;blind 0;",
            "belt slowest 1 9;horse 9 9 9;blind 0;tide 1,2;cart 9;due 9;horse"};
        int[] faults = {1, 2, 3, 4, 1};
        for (int i = 0; i < texts.length; i++) {
            OatFerry x = midway.making.get();
            Check.feed(x, texts[i]);
            Check.due("ferry() of '" + texts[i] + "'", x.ferry(), -10 - faults[i]);
            midway.alike("ferry() of '" + texts[i] + "'", midway.everything(x), true);
        }
    }
}
