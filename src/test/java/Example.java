public final class Example {
    public static void main(String[] args) {
        EightOars x = new EightOars();
        int strong = x.rower(80, 60, 500, 10);      // WEIGHT, FORCE, STORE, FILLS
        int light = x.rower(64, 45, 300, 20);
        x.sit(1, strong);                           // answers who sat there: NONE
        x.sit(6, light);
        x.rig(6, 1, 5);                             // GEAR 5 in SEAT 6; answers what was

        feed(x, "s2r5x3");                          // two STARTS, five STROKES, three SPURTS
        int plan = x.plan();
        show("WAY", x.row(plan, 0));
        show("STORE left", x.left(plan, light));
        show("BEST CHANGE", x.change(plan, 0));     // 10 times the one SEAT, and the other
        show("its MORE", x.change(plan, 1));
        show("SPURTS of ten", x.spurts(10, 2, 0));

        feed(x, "give force - 9 * (store < 99); drag speed * 2;");
        x.force(x.text());                          // now it is THE RULE
        show("WAY by it", x.row(plan, 0));
        feed(x, "r1s");
        show("a FAULT", x.plan());                  // -100 less its place

        int piece = x.piece(strong, light, 12, 3);  // 12 farther with the first, give or take 3
        show("WORTH at least", x.worth(strong, light, 1 << piece, 0));

        x.sheet(0, 1, 6);                           // six shorts
        x.cell(0, 2, 415);
        x.cell(0, 3, 420);
        x.race(0);                                  // times of LANES 0 .. 5
        show("LANES 2, 3", x.lanes(2, 3, 0));
        show("FAIR", x.fair());                     // bits
    }

    /** Puts a text on THE TAPE, eight bytes at a time. */
    private static void feed(EightOars x, String text) {
        for (int from = 0; from < text.length(); from += 8) {
            int n = Math.min(8, text.length() - from);
            long bytes = 0;
            for (int i = n - 1; i >= 0; i--) {
                bytes = bytes << 8 | text.charAt(from + i);
            }
            x.feed(n, bytes);
        }
    }

    private static void show(String name, long answer) {
        System.out.println(name + ": " + answer);
    }
}
