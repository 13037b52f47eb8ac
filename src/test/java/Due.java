/** What the tests share: answers compared with those that are due, and texts put on the tape. */
final class Due {
    private static int wrong = 0;
    private static int asked = 0;

    private Due() {
    }

    static void is(String call, long got, long want) {
        asked++;
        if (got != want) {
            wrong++;
            System.out.println(call + " answered " + got + ", due is " + want);
        }
    }

    static void holds(String what, boolean held) {
        is(what, held ? 1 : 0, 1);
    }

    static void end() {
        System.out.println(asked + " answers, " + wrong + " not as due");
        if (wrong != 0) {
            System.exit(1);
        }
    }

    static void feed(EightOars x, String text) {
        for (int from = 0; from < text.length(); from += 8) {
            int n = Math.min(8, text.length() - from);
            long bytes = 0;
            for (int i = n - 1; i >= 0; i--) {
                bytes = bytes << 8 | text.charAt(from + i);
            }
            x.feed(n, bytes);
        }
    }

    static int text(EightOars x, String text) {
        feed(x, text);
        return x.text();
    }

    static int plan(EightOars x, String text) {
        feed(x, text);
        return x.plan();
    }

    static void race(EightOars x, int... times) {
        x.sheet(3, 2, times.length);
        for (int i = 0; i < times.length; i++) {
            x.cell(3, i, times[i]);
        }
        x.race(3);
    }
}
