/** What the tests share: answers compared with those that are due, and texts put on the tape. */
final class Due {
    private static int wrong = 0;
    private static int asked = 0;

    private Due() {
    }

    static void is(String call, long got, long want) {
        asked++;
        if (got != want) {
            wrong++;
            System.out.println(call + " answered " + got + ", due is " + want);
        }
    }

    static void holds(String what, boolean held) {
        is(what, held ? 1 : 0, 1);
    }

    static void end() {
        System.out.println(asked + " answers, " + wrong + " not as due");
        if (wrong != 0) {
            System.exit(1);
        }
    }

    static void feed(EightOars x, String text) {
        for (int from = 0; from < text.length(); from += 8) {
            int n = Math.min(8, text.length() - from);
            long bytes = 0;
            for (int i = n - 1; i >= 0; i--) {
                bytes = bytes << 8 | text.charAt(from + i);
            }
            x.feed(n, bytes);
        }
    }

    static int text(EightOars x, String text) {
        feed(x, text);
        return x.text();
    }

    /** Reads a text and makes it THE RULE. */
    static void rule(EightOars x, String text) {
        int number = text(x, text);
        is("a right text: " + text, number > 0 ? 1 : 0, 1);
        x.force(number);
    }

    static int plan(EightOars x, String text) {
        feed(x, text);
        return x.plan();
    }

    /** A sheet of that sort with these numbers. */
    static void sheet(EightOars x, int sheet, int sort, int... cells) {
        x.sheet(sheet, sort, cells.length);
        for (int i = 0; i < cells.length; i++) {
            x.cell(sheet, i, cells[i]);
        }
    }

    static int race(EightOars x, int... times) {
        sheet(x, 3, 2, times);
        return x.race(3);
    }

    /** As many rowers as told, each of weight 100 and force 1, with full stores that don't fill. */
    static EightOars withRowers(int n) {
        EightOars x = new EightOars();
        for (int i = 0; i < n; i++) {
            x.rower(100, 1, 9999, 0);
        }
        return x;
    }
}
