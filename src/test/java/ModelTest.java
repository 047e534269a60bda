import java.util.Random;

/** All promises: runs of drawn calls, each answered by OatFerry as by PlainFerry. */
public final class ModelTest {
    private static final int RUNS = 900;
    private static final int TEXTS = 60000;
    private static final int NOBODY = -1;
    /** Of an object's 512 calls: behind these, one turn more of drawn calls still fits. */
    private static final int CALLS = 400;
    private static final int[] ODD = {-1, -2, -3, 0, 1, 2, 3, 4, 5, 6, 7, 8, 9, 10, 12, 13, 99, 100, 120, 121, 240, 241,
        Integer.MAX_VALUE, Integer.MIN_VALUE};

    private final Random random;
    private final OatFerry x = new OatFerry();
    private final PlainFerry y = new PlainFerry();
    private String name;
    private int shirker;
    private int shirkerPull;
    private int asked = 0;

    private ModelTest(long seed) {
        random = new Random(seed);
        name = "model run " + seed;
    }

    public static void main(String[] args) {
        for (int run = 0; run < RUNS; run++) {
            new ModelTest(run).run();
        }
        texts();
        Check.end();
    }

    /** Texts with one byte or two changed: the faults of both must be the same. */
    private static void texts() {
        for (int i = 0; i < TEXTS; i++) {
            ModelTest t = new ModelTest(12345L * i);
            StringBuilder text = new StringBuilder(t.text());
            int changes = t.random.nextInt(3);
            for (int c = 0; c < changes; c++) {
                t.change(text);
            }
            t.feed(text.toString());
            t.due("ferry() of '" + text + "'", t.x.ferry(), t.y.ferry());
            t.due("fault() of '" + text + "'", t.x.fault(), t.y.fault());
        }
    }

    private void change(StringBuilder text) {
        String signs = " ;,0123456789abcdeimnostuvxA\t\u00e9";
        if (text.length() == 0) {
            return;
        }
        int at = random.nextInt(text.length());
        switch (random.nextInt(5)) {
            case 0: text.deleteCharAt(at); break;
            case 1: text.insert(at, signs.charAt(random.nextInt(signs.length()))); break;
            case 2: text.setLength(at); break;
            case 3: swapClauses(text); break;
            default: text.setCharAt(at, signs.charAt(random.nextInt(signs.length()))); break;
        }
    }

    private void swapClauses(StringBuilder text) {
        String[] clauses = text.toString().split("(?<=;)");
        int a = random.nextInt(clauses.length);
        int b = random.nextInt(clauses.length);
        clauses[a] = clauses[b];
        String joined = String.join("", clauses);
        text.setLength(0);
        text.append(joined, 0, Math.min(500, joined.length()));
    }

    private void due(String call, int got, int want) {
        asked++;
        Check.due(name + ": " + call, got, want);
    }

    private void feed(String text) {
        int from = 0;
        while (from < text.length()) {
            int n = Math.min(text.length() - from, 1 + random.nextInt(8));
            long bytes = random.nextLong();
            for (int i = from; i < from + n; i++) {
                bytes = bytes << 8 | text.charAt(i);
            }
            due("feed", x.feed(n, bytes), y.feed(n, bytes));
            from += n;
        }
    }

    private int between(int least, int most) {
        return least + random.nextInt(most - least + 1);
    }

    private String number(int least, int most) {
        if (random.nextInt(400) == 0) {
            return String.valueOf(random.nextBoolean() ? most + 1 : least - 1);
        }
        int n = random.nextInt(12) == 0 ? (random.nextBoolean() ? least : most) : between(least, most);
        return random.nextInt(30) == 0 ? String.format("%03d", n) : String.valueOf(n);
    }

    /** Mostly a good text; small, so that strengths and minutes of a crossing are of one size. */
    private String text() {
        StringBuilder s = new StringBuilder();
        int places = between(1, 3);
        int horses = random.nextInt(12) == 0 ? 0 : between(1, 6);
        int size = random.nextInt(3);
        s.append("belt ").append(random.nextBoolean() ? "sum " : "slowest ").append(places).append(' ')
                .append(number(1, size == 0 ? 60 : size == 1 ? 400 : 999)).append(';');
        for (int h = 0; h < horses; h++) {
            s.append("horse ").append(number(1, 30)).append(' ').append(number(1, size == 0 ? 9 : size == 1 ? 40 : 200))
                    .append(' ').append(number(0, size == 0 ? 4 : 60)).append(';');
            if (random.nextInt(5) == 0) {
                s.append("blind ").append(h).append(';');
            }
        }
        int besides = horses < 2 ? 0 : random.nextInt(9);
        boolean[] used = new boolean[36];
        for (int i = 0; i < besides; i++) {
            int a = random.nextInt(horses);
            int b = random.nextInt(horses);
            if (a != b && !used[a * 6 + b]) {
                used[a * 6 + b] = true;
                s.append("beside ").append(a).append(' ').append(b).append(' ').append(number(0, 10)).append(';');
            }
        }
        if (random.nextInt(4) != 0) {
            int tides = between(1, 12);
            s.append("tide ");
            for (int i = 0; i < tides; i++) {
                s.append(i == 0 ? "" : ",").append(random.nextBoolean() ? number(10, 30) : number(0, 40));
            }
            s.append(';');
        }
        int carts = random.nextInt(5);
        for (int i = 0; i < carts; i++) {
            s.append("cart ").append(number(0, random.nextBoolean() ? 20 : 60)).append(';');
        }
        if (random.nextInt(4) != 0) {
            s.append("due ").append(number(1, 120)).append(';');
        }
        return s.toString();
    }

    private int odd() {
        return ODD[random.nextInt(ODD.length)];
    }

    /** Mostly within bounds. */
    private int some(int least, int most) {
        return random.nextInt(25) == 0 ? odd() : between(least, most);
    }

    private int someHorse() {
        return some(0, Math.max(0, y.told(3) - 1));
    }

    private int somePlace(int least) {
        return some(least, Math.max(0, y.told(0) - 1));
    }

    private int load() {
        return random.nextInt(3) == 0 ? 0 : some(0, random.nextInt(4) == 0 ? 60 : 15);
    }

    private void run() {
        for (int i = 0; i < 110 && asked < CALLS; i++) {
            if (i == 3 || random.nextInt(60) == 0) {
                String text = text();
                name = name.replaceAll(" '.*", "") + " '" + text + "'";
                feed(text);
                due("ferry()", x.ferry(), y.ferry());
                due("fault()", x.fault(), y.fault());
                shirker = random.nextInt(6);
                shirkerPull = random.nextBoolean() ? 0 : between(1, 30);
            }
            call();
        }
    }

    private void call() {
        switch (random.nextInt(8)) {
            case 0: ferryCall(); break;
            case 1: case 2: case 3: crossingCall(); break;
            case 4: case 5: triedCall(); break;
            case 6: timeCall(); break;
            default: imageCall(); break;
        }
    }

    private void ferryCall() {
        int a = someHorse();
        int b = someHorse();
        int of = some(0, 6);
        switch (random.nextInt(5)) {
            case 0: due("horse(" + a + ", " + of + ")", x.horse(a, of), y.horse(a, of)); break;
            case 1: due("beside(" + a + ", " + b + ")", x.beside(a, b), y.beside(a, b)); break;
            case 2: due("cart(" + a + ")", x.cart(a), y.cart(a)); break;
            default:
                int what = some(0, 12);
                due("told(" + what + ")", x.told(what), y.told(what));
                break;
        }
    }

    private void crossingCall() {
        int h = someHorse();
        int p = somePlace(-1);
        int load = load();
        int what = some(0, 1);
        int n = some(1, random.nextInt(4) == 0 ? 99 : 3);
        switch (random.nextInt(8)) {
            case 0: case 1: case 2: due("put(" + h + ", " + p + ")", x.put(h, p), y.put(h, p)); break;
            case 3: due("at(" + p + ")", x.at(p), y.at(p)); break;
            case 4: due("cross(" + load + ")", x.cross(load), y.cross(load)); break;
            case 5: due("trial(" + load + ", " + what + ")", x.trial(load, what), y.trial(load, what)); break;
            case 6: due("rest(" + n + ")", x.rest(n), y.rest(n)); break;
            default:
                if (random.nextInt(3) == 0) {
                    due("drift(" + n + ")", x.drift(n), y.drift(n));
                }
                break;
        }
        due("horse(" + h + ", 6)", x.horse(h, 6), y.horse(h, 6));
        due("horse(" + h + ", 4)", x.horse(h, 4), y.horse(h, 4));
        due("told(8)", x.told(8), y.told(8));
        due("told(12)", x.told(12), y.told(12));
    }

    private void triedCall() {
        int load = load();
        int p = somePlace(-2);
        int k = some(0, 1);
        int h = someHorse();
        int i = some(-1, 3);
        switch (random.nextInt(12)) {
            case 0: case 1: case 2: due("soonest(" + load + ", " + p + ")", x.soonest(load, p), y.soonest(load, p)); break;
            case 3: case 4: case 5: due("cheapest(" + load + ", " + p + ")", x.cheapest(load, p), y.cheapest(load, p)); break;
            case 6: case 7: due("best(" + load + ", " + k + ")", x.best(load, k), y.best(load, k)); break;
            case 8: case 9: due("worth(" + load + ", " + h + ")", x.worth(load, h), y.worth(load, h)); break;
            case 10:
                due("carts(" + i + ")", x.carts(i), y.carts(i));
                break;
            default:
                due("twice(" + load + ", " + k + ", " + p + ")", x.twice(load, k, p), y.twice(load, k, p));
                break;
        }
    }

    private void timeCall() {
        switch (random.nextInt(7)) {
            case 0: case 1: tellSomething(); break;
            case 2:
                int h = someHorse();
                due("pulls(" + h + ")", x.pulls(h), y.pulls(h));
                break;
            case 3: due("sham()", x.sham(), y.sham()); break;
            case 4: due("judge()", x.judge(), y.judge()); break;
            default:
                if (random.nextInt(4) == 0) {
                    due("tear()", x.tear(), y.tear());
                }
                break;
        }
    }

    private void tellSomething() {
        int[] who = {NOBODY, NOBODY, NOBODY};
        for (int p = 0; p < y.told(0); p++) {
            who[p] = random.nextInt(3) == 0 ? NOBODY : someHorse();
        }
        if (random.nextInt(40) == 0) {
            who[random.nextInt(3)] = someHorse();
        }
        int hour = some(0, 99);
        int minutes = some(0, 120);
        String call = "tell(" + who[0] + ", " + who[1] + ", " + who[2] + ", " + hour + ", ";
        // Told as one that shams or pulls otherwise would make it, so that there is something to find.
        if (y.canTell(who, hour) && random.nextInt(8) != 0) {
            minutes = y.wouldTake(who, hour, random.nextBoolean() ? shirker : NOBODY, shirkerPull);
        }
        due(call + minutes + ")", x.tell(who[0], who[1], who[2], hour, minutes), y.tell(who[0], who[1], who[2], hour, minutes));
        due("judge()", x.judge(), y.judge());
        due("sham()", x.sham(), y.sham());
        for (int h = 0; h < y.told(3); h++) {
            due("pulls(" + h + ")", x.pulls(h), y.pulls(h));
        }
    }

    private void imageCall() {
        int i = some(0, 1);
        int v = random.nextInt(6) == 0 ? odd() : random.nextInt() & Integer.MAX_VALUE;
        switch (random.nextInt(4)) {
            case 0: due("seed(" + v + ")", x.seed(v), y.seed(v)); break;
            case 1: due("keep(" + i + ")", x.keep(i), y.keep(i)); break;
            case 2: due("goBack(" + i + ")", x.goBack(i), y.goBack(i)); break;
            default:
                due("told(7)", x.told(7), y.told(7));
                due("told(9)", x.told(9), y.told(9));
                break;
        }
    }
}
