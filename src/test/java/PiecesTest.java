/** Promises 20, 21, 22 and 32: piece, worth, go, pieces. */
public final class PiecesTest {
    public static void main(String[] args) {
        telling();
        worths();
        worthRefusals();
        quarrels();
        going();
        goingRefusals();
        bySheet();
        bySheetRefusals();
        Due.end();
    }

    private static EightOars withRowers(int n) {
        EightOars x = new EightOars();
        for (int i = 0; i < n; i++) {
            x.rower(60, 10, 0, 0);
        }
        return x;
    }

    private static void telling() {
        EightOars x = withRowers(3);
        int[][] wrong = {{0, 0, 1, 1}, {0, 3, 1, 1}, {3, 0, 1, 1}, {-1, 0, 1, 1}, {0, -1, 1, 1},
            {0, 1, -10000, 1}, {0, 1, 10000, 1}, {0, 1, 1, -1}, {0, 1, 1, 1000}};
        for (int[] told : wrong) {
            Due.is("no PIECE", x.piece(told[0], told[1], told[2], told[3]), -2);
        }
        Due.is("none came", x.count(6), 0);
        Due.is("least", x.piece(0, 1, -9999, 0), 0);
        Due.is("most", x.piece(2, 1, 9999, 999), 1);
        for (int i = 2; i < 30; i++) {
            Due.is("PIECE " + i, x.piece(0, 1, -9999, i), i);
        }
        Due.is("31st PIECE", x.piece(0, 1, 1, 1), -4);
        Due.is("BAD ahead of FULL", x.piece(0, 0, 1, 1), -2);
        Due.is("30 PIECES", x.count(6), 30);
        Due.is("by all 30", x.worth(2, 0, 0x3FFFFFFF, 1), 10998 + 9999);
        Due.is("31 bits", x.worth(2, 0, 0x7FFFFFFF, 1), EightOars.NO);
    }

    private static void worths() {
        EightOars x = withRowers(16);
        Due.is("by no PIECES", x.worth(0, 15, 0, 0), -999999);
        Due.is("by no PIECES", x.worth(0, 15, 0, 1), 999999);
        for (int i = 0; i < 15; i++) {
            x.piece(i, i + 1, 9999, 999);
        }
        Due.is("a long chain, least", x.worth(0, 15, 0x7FFF, 0), 15 * 9000);
        Due.is("a long chain, most", x.worth(0, 15, 0x7FFF, 1), 15 * 10998);
        Due.is("the other way, least", x.worth(15, 0, 0x7FFF, 0), -15 * 10998);
        Due.is("the other way, most", x.worth(15, 0, 0x7FFF, 1), -15 * 9000);
        Due.is("a gap in it", x.worth(0, 15, 0x7FF7, 0), -999999);
        x.piece(0, 15, 9999, 0);
        Due.is("a QUARREL around", x.worth(0, 1, 0xFFFF, 0), -3);
        Due.is("none without it", x.worth(0, 1, 0x7FFF, 0), 9000);
        x.piece(0, 2, 20000 - 10001, 999);
        Due.is("one more that can't be", x.worth(0, 2, 0x10003, 1), -3);
        x.piece(3, 2, -9500, 100);
        Due.is("tighter on both sides", x.worth(2, 3, 0x20004, 0), 9400);
        Due.is("tighter on both sides", x.worth(2, 3, 0x20004, 1), 9600);
    }

    private static void worthRefusals() {
        EightOars x = withRowers(2);
        x.piece(0, 1, 5, 1);
        int[][] wrong = {{0, 0, 1, 0}, {0, 2, 1, 0}, {2, 0, 1, 0}, {-1, 0, 1, 0}, {0, -1, 1, 0},
            {0, 1, 2, 0}, {0, 1, 3, 0}, {0, 1, -1, 0}, {0, 1, Integer.MIN_VALUE, 0},
            {0, 1, 1, -1}, {0, 1, 1, 2}};
        for (int[] told : wrong) {
            Due.is("no WORTH", x.worth(told[0], told[1], told[2], told[3]), EightOars.NO);
        }
    }

    private static void quarrels() {
        EightOars x = withRowers(5);
        x.piece(0, 1, 10, 2);
        x.piece(0, 1, 14, 2);
        x.piece(0, 1, 15, 2);
        Due.is("they meet in 12, least", x.worth(0, 1, 3, 0), 12);
        Due.is("they meet in 12, most", x.worth(0, 1, 3, 1), 12);
        Due.is("they don't meet", x.worth(0, 1, 5, 0), -3);
        Due.is("of others too", x.worth(3, 4, 5, 0), -3);
        Due.is("NO ahead of STATE", x.worth(3, 3, 5, 0), EightOars.NO);
    }

    private static void going() {
        EightOars x = withRowers(4);
        Due.is("of none", x.go(0), 0);
        x.piece(0, 1, 1, 0);
        x.piece(0, 1, 2, 0);
        x.piece(0, 1, 1, 0);
        x.piece(1, 0, -2, 0);
        Due.is("two against two: the least bits", x.go(15), 5);
        Due.is("one against two", x.go(7), 2);
        Due.is("one against one", x.go(3), 1);
        Due.is("one against one", x.go(12), 4);
        Due.is("they agree", x.go(5), 0);
        x.piece(2, 3, 5, 1);
        Due.is("one that harms none", x.go(31), 5);
        Due.is("alone", x.go(16), 0);
        for (int i = 5; i < 12; i++) {
            x.piece(0, 1, 10 * i, 0);
        }
        Due.is("all against all", x.go(0xFE0), 0x7E0);
        Due.is("all twelve", x.go(0xFFF), 0xFE5);
        EightOars z = withRowers(2);
        for (int i = 0; i < 12; i++) {
            z.piece(0, 1, 10 * i, 4);
        }
        Due.is("of twelve but one goes", z.go(0xFFF), 0x7FF);
        EightOars y = withRowers(3);
        y.piece(0, 1, 10, 0);
        y.piece(1, 2, 10, 0);
        y.piece(0, 2, 30, 0);
        y.piece(2, 0, -30, 0);
        Due.is("a ring: one of two", y.go(15), 1);
        Due.is("a ring of three", y.go(7), 1);
    }

    private static void goingRefusals() {
        EightOars x = withRowers(2);
        Due.is("none there", x.go(1), -2);
        for (int i = 0; i < 13; i++) {
            x.piece(0, 1, 1, 0);
        }
        Due.is("the first 12", x.go(0xFFF), 0);
        Due.is("the 13th", x.go(0x1000), -2);
        Due.is("the 13th too", x.go(0x1FFF), -2);
        Due.is("none such", x.go(0x2000), -2);
        Due.is("below 0", x.go(-1), -2);
        Due.is("below 0", x.go(Integer.MIN_VALUE), -2);
    }

    private static void put(EightOars x, int sheet, int... cells) {
        for (int i = 0; i < cells.length; i++) {
            x.cell(sheet, i, cells[i]);
        }
    }

    private static void bySheet() {
        EightOars x = withRowers(3);
        for (int sort = 0; sort < 3; sort++) {
            x.sheet(sort, sort, 12);
            put(x, sort, 0, 1, 7, 2, 0, 0, 1, 1, 2, 1, -7, 3);
            Due.is("sort " + sort, x.pieces(sort, sort, 0, 3), 2);
        }
        Due.is("PIECES", x.count(6), 6);
        Due.is("as told", x.worth(0, 1, 1, 0), 5);
        Due.is("as told", x.worth(2, 1, 2, 1), -4);
        Due.is("none of them", x.pieces(0, 0, 0, 0), 0);
        Due.is("none of them, from anywhere", x.pieces(0, 0, 99, 0), 0);
        Due.is("the last", x.pieces(0, 0, 8, 1), 1);
        x.sheet(3, 2, 40);
        for (int i = 0; i < 10; i++) {
            x.cell(3, 4 * i + 1, 1);
        }
        Due.is("ten", x.pieces(3, 2, 0, 10), 10);
        Due.is("ten more", x.pieces(3, 2, 0, 10), 10);
        Due.is("three have room", x.pieces(3, 2, 0, 10), 3);
        Due.is("none has room", x.pieces(3, 2, 0, 10), 0);
    }

    private static void bySheetRefusals() {
        EightOars x = withRowers(3);
        x.sheet(0, 1, 10);
        put(x, 0, 0, 1, 7, 2, 1, 2, 7, 2, 0, 1);
        int[][] wrong = {{-1, 1, 0, 1}, {4, 1, 0, 1}, {0, -1, 0, 1}, {0, 3, 0, 1}, {0, 1, 0, -1},
            {0, 1, 0, 11}, {1, 3, 0, 0}};
        for (int[] told : wrong) {
            Due.is("BAD", x.pieces(told[0], told[1], told[2], told[3]), -2);
        }
        Due.is("of another sort", x.pieces(0, 0, 0, 0), -13);
        Due.is("of another sort", x.pieces(0, 2, 50, 5), -13);
        Due.is("missing", x.pieces(1, 0, 0, 0), -11);
        Due.is("from -1", x.pieces(0, 1, -1, 1), -12);
        Due.is("from 7", x.pieces(0, 1, 7, 1), -12);
        Due.is("far away", x.pieces(0, 1, Integer.MAX_VALUE, 2), -12);
        Due.is("far away", x.pieces(0, 1, Integer.MIN_VALUE, 2), -12);
        Due.is("none came yet", x.count(6), 0);
        Due.is("the third stands outside", x.pieces(0, 1, 0, 3), -12);
        Due.is("what stood ahead came", x.count(6), 2);
        Due.is("as told", x.worth(1, 2, 2, 0), 5);
    }
}
