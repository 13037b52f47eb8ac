/** Promises 23 to 25: race, lanes, fair. */
public final class RacesTest {
    public static void main(String[] args) {
        races();
        lanesWorth();
        fairLanes();
        Due.end();
    }

    private static void races() {
        EightOars x = new EightOars();
        Due.is("SHEET -1", x.race(-1), -2);
        Due.is("SHEET 4", x.race(4), -2);
        Due.is("missing", x.race(0), -11);
        x.sheet(0, 0, 5);
        Due.is("five times", x.race(0), -2);
        x.sheet(0, 0, 7);
        Due.is("seven times", x.race(0), -2);
        x.sheet(0, 0, 6);
        Due.is("bytes, nobody rowed", x.race(0), 0);
        x.cell(0, 5, -1);
        Due.is("a time below 0", x.race(0), -2);
        x.sheet(1, 1, 6);
        x.cell(1, 0, 9999);
        Due.is("shorts, the most", x.race(1), 1);
        x.cell(1, 0, 10000);
        Due.is("a time above", x.race(1), -2);
        x.sheet(2, 2, 6);
        Due.is("RACES", x.count(7), 2);
        for (int i = 2; i < 20; i++) {
            Due.is("RACE " + i, x.race(2), i);
        }
        Due.is("21st RACE", x.race(2), -4);
        Due.is("BAD ahead of FULL", x.race(1), -2);
        Due.is("-11 ahead of FULL", x.race(3), -11);
        Due.is("RACES", x.count(7), 20);
    }

    private static void lanesWorth() {
        EightOars x = new EightOars();
        Due.is("of none, above", x.lanes(0, 1, 0), 0);
        Due.is("of none, below", x.lanes(0, 1, 1), 1);
        Due.race(x, 10, 12, 0, 5, 5, 9999);
        Due.race(x, 11, 14, 7, 5, 6, 1);
        Due.race(x, 15, 14, 7, 0, 4, 1);
        Due.race(x, 20, 22, 8, 0, 0, 3);
        Due.is("above, lowest terms", x.lanes(0, 1, 0), -3);
        Due.is("below, lowest terms", x.lanes(0, 1, 1), 2);
        Due.is("the other way", x.lanes(1, 0, 0), 3);
        Due.is("the other way", x.lanes(1, 0, 1), 2);
        Due.is("-1 by 2, above", x.lanes(3, 4, 0), -1);
        Due.is("-1 by 2, below", x.lanes(3, 4, 1), 2);
        Due.is("24 by 3, above", x.lanes(0, 2, 0), 8);
        Due.is("24 by 3, below", x.lanes(0, 2, 1), 1);
        Due.race(x, 0, 0, 0, 6, 5, 0);
        Due.is("0 by 3, above", x.lanes(3, 4, 0), 0);
        Due.is("0 by 3, below", x.lanes(3, 4, 1), 1);
        Due.is("both must have rowed", x.lanes(2, 3, 0), 2);
        Due.is("once", x.lanes(2, 3, 1), 1);
        int[][] wrong = {{0, 0, 0}, {-1, 0, 0}, {0, -1, 0}, {6, 0, 0}, {0, 6, 0}, {0, 1, -1},
            {0, 1, 2}};
        for (int[] told : wrong) {
            Due.is("no LANES", x.lanes(told[0], told[1], told[2]), EightOars.NO);
        }
    }

    private static void fairLanes() {
        EightOars x = new EightOars();
        Due.is("of none", x.fair(), 0);
        Due.race(x, 5, 5, 0, 6, 9, 0);
        Due.is("alike they are first", x.fair(), 3);
        Due.race(x, 6, 0, 0, 5, 9, 0);
        Due.is("one of two is half", x.fair(), 1 + 2 + 8);
        Due.race(x, 7, 8, 0, 6, 0, 0);
        Due.is("one of three is not", x.fair(), 2 + 8);
        Due.race(x, 7, 8, 9999, 0, 10, 0);
        Due.is("two of four, one of three", x.fair(), 1 + 8);
        Due.race(x, 0, 0, 9999, 0, 0, 0);
        Due.is("alone", x.fair(), 1 + 4 + 8);
        Due.race(x, 0, 0, 0, 0, 0, 0);
        Due.is("nobody", x.fair(), 1 + 4 + 8);
        x = new EightOars();
        for (int i = 0; i < 20; i++) {
            Due.race(x, 5 + i % 2, 0, 7, 0, 0, 6 - i % 2);
        }
        Due.is("all 20, each by itself", x.fair(), 1 + 32);
        Due.is("all 20, above", x.lanes(0, 2, 0), -3);
        Due.is("all 20, below", x.lanes(0, 2, 1), 2);
    }
}
