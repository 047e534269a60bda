import java.util.function.ToIntFunction;

/** What the project's tests share: answers that are due, texts fed, the end of a test. */
final class Check {
    private static int asked = 0;
    private static int wrong = 0;
    private static String words = "";

    private Check() {
    }

    /** The document's words that the next answers are due by: they are told ahead of a wrong one. */
    static void about(String theWords) {
        words = "[" + theWords + "] ";
    }

    static void due(String call, long got, long want) {
        asked++;
        if (got != want) {
            wrong++;
            if (wrong <= 50) {
                System.out.println(words + call + " answered " + got + ", due is " + want);
            }
        }
    }

    static void yes(String what, boolean is) {
        due(what, is ? 1 : 0, 1);
    }

    static void feed(OatFerry x, String text) {
        for (int from = 0; from < text.length(); from += 8) {
            int to = Math.min(text.length(), from + 8);
            long bytes = 0;
            for (int i = from; i < to; i++) {
                bytes = bytes << 8 | text.charAt(i) & 255;
            }
            x.feed(to - from, bytes);
        }
    }

    static OatFerry ferry(String text) {
        OatFerry x = new OatFerry();
        feed(x, text);
        int answer = x.ferry();
        if (answer < 0) {
            due("ferry() of '" + text + "'", answer, 0);
        }
        return x;
    }

    /** A text without a fault, that tells so many places. */
    static OatFerry good(String text, int places) {
        OatFerry x = new OatFerry();
        feed(x, text);
        due("ferry() of '" + text + "'", x.ferry(), places);
        due("fault() of '" + text + "'", x.fault(), OatFerry.NONE);
        return x;
    }

    /** A text whose first fault is at the byte behind '^'. */
    static void bad(int fault, String marked) {
        int where = marked.indexOf('^');
        String text = marked.substring(0, where) + marked.substring(where + 1);
        OatFerry x = new OatFerry();
        feed(x, text);
        due("ferry() of '" + text + "'", x.ferry(), -10 - fault);
        due("fault() of '" + text + "'", x.fault(), where);
        due("no places by '" + text + "'", x.told(0), 0);
    }

    /** One call with each of these numbers: all are answered alike. */
    static void each(String call, ToIntFunction<Integer> ask, int want, int... numbers) {
        for (int n : numbers) {
            due(call + " with " + n, ask.applyAsInt(n), want);
        }
    }

    static void end() {
        System.out.println(asked + " answers, " + wrong + " not as due");
        if (wrong != 0 || asked == 0) {
            System.exit(1);
        }
    }
}
