/** What the project's tests share: answers that are due, texts fed, the end of a test. */
final class Check {
    private static int asked = 0;
    private static int wrong = 0;

    private Check() {
    }

    static void due(String call, long got, long want) {
        asked++;
        if (got != want) {
            wrong++;
            if (wrong <= 50) {
                System.out.println(call + " answered " + got + ", due is " + want);
            }
        }
    }

    static void feed(OatFerry x, String text) {
        for (int from = 0; from < text.length(); from += 8) {
            int to = Math.min(text.length(), from + 8);
            long bytes = 0;
            for (int i = from; i < to; i++) {
                bytes = bytes << 8 | text.charAt(i) & 255;
            }
            x.feed(to - from, bytes);
        }
    }

    static OatFerry ferry(String text) {
        OatFerry x = new OatFerry();
        feed(x, text);
        int answer = x.ferry();
        if (answer < 0) {
            due("ferry() of '" + text + "'", answer, 0);
        }
        return x;
    }

    static void end() {
        System.out.println(asked + " answers, " + wrong + " not as due");
        if (wrong != 0 || asked == 0) {
            System.exit(1);
        }
    }
}
