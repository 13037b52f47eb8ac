/** Promises 29 to 31: sheet, cell, copy. */
public final class SheetsTest {
    public static void main(String[] args) {
        making();
        putting();
        copying();
        copyRefusals();
        Due.end();
    }

    /** Item i of a sheet, by what rowers' pieces tell of it: a piece (0, 1, item, 0). */
    private static long item(EightOars x, int sheet, int sort, int i) {
        EightOars y = x;
        int keep = y.count(6);
        y.sheet(3, sort, 4);
        y.cell(3, 1, 1);
        y.copy(sheet, i, 3, 2, 1);
        if (y.pieces(3, sort, 0, 1) != 1) {
            return EightOars.NO;
        }
        return y.worth(0, 1, 1 << keep, 0);
    }

    private static EightOars withTwo() {
        EightOars x = new EightOars();
        x.rower(60, 10, 0, 0);
        x.rower(60, 10, 0, 0);
        return x;
    }

    private static void making() {
        EightOars x = withTwo();
        int[][] wrong = {{-1, 0, 1}, {4, 0, 1}, {0, -2, 1}, {0, 3, 1}, {0, 0, 41},
            {0, 2, Integer.MAX_VALUE}, {4, -1, 1}, {0, 3, -1}};
        for (int[] told : wrong) {
            Due.is("no SHEET", x.sheet(told[0], told[1], told[2]), -2);
        }
        Due.is("a size below 0", x.sheet(0, 0, -1), -14);
        Due.is("a size far below 0", x.sheet(0, 2, Integer.MIN_VALUE), -14);
        Due.is("still missing", x.cell(0, 0, 0), -11);
        Due.is("the most", x.sheet(0, 0, 40), 1);
        Due.is("its last item", x.cell(0, 39, 5), 1);
        Due.is("behind it", x.cell(0, 40, 5), -12);
        Due.is("refused, it stays", x.sheet(0, 0, -1), -14);
        Due.is("as it was", item(x, 0, 0, 39), 5);
        Due.is("anew", x.sheet(0, 0, 40), 1);
        Due.is("all 0", item(x, 0, 0, 39), 0);
        Due.is("empty", x.sheet(0, 1, 0), 1);
        Due.is("no item", x.cell(0, 0, 0), -12);
        Due.is("missing", x.sheet(0, -1, -5), 1);
        Due.is("missing again", x.sheet(0, -1, 99), 1);
        Due.is("it is", x.cell(0, 0, 0), -11);
    }

    private static void putting() {
        EightOars x = withTwo();
        x.sheet(0, 0, 4);
        x.sheet(1, 1, 4);
        x.sheet(2, 2, 4);
        Due.is("a byte", x.cell(0, 0, 0x1FF85), 1);
        Due.is("its lowest 8 bits, with their sign", item(x, 0, 0, 0), -123);
        Due.is("a short", x.cell(1, 3, 0x71234), 1);
        Due.is("its lowest 16 bits", item(x, 1, 1, 3), 0x1234);
        Due.is("a short below 0", x.cell(1, 0, 0x1FFFE), 1);
        Due.is("with its sign", item(x, 1, 1, 0), -2);
        Due.is("an int", x.cell(2, 1, -9999), 1);
        Due.is("as it is", item(x, 2, 2, 1), -9999);
        Due.is("an int that is far", x.cell(2, 1, 0x10005), 1);
        Due.is("is not cut", item(x, 2, 2, 1), EightOars.NO);
        Due.is("SHEET -1", x.cell(-1, 0, 0), -2);
        Due.is("SHEET 4", x.cell(4, 0, 0), -2);
        Due.is("item -1", x.cell(0, -1, 0), -12);
        Due.is("item 4", x.cell(0, 4, 0), -12);
        x.sheet(3, -1, 0);
        Due.is("-11 ahead of -12", x.cell(3, -1, 0), -11);
    }

    private static void copying() {
        EightOars x = withTwo();
        x.sheet(0, 2, 6);
        for (int i = 0; i < 6; i++) {
            x.cell(0, i, 10 + i);
        }
        x.sheet(1, 2, 3);
        Due.is("to another one", x.copy(0, 3, 1, 0, 3), 3);
        Due.is("the first", item(x, 1, 2, 0), 13);
        Due.is("the last", item(x, 1, 2, 2), 15);
        Due.is("onto itself, behind", x.copy(0, 0, 0, 1, 5), 5);
        int[] behind = {10, 10, 11, 12, 13, 14};
        for (int i = 0; i < 6; i++) {
            Due.is("item " + i, item(x, 0, 2, i), behind[i]);
        }
        Due.is("onto itself, ahead", x.copy(0, 2, 0, 0, 4), 4);
        int[] ahead = {11, 12, 13, 14, 13, 14};
        for (int i = 0; i < 6; i++) {
            Due.is("item " + i, item(x, 0, 2, i), ahead[i]);
        }
        Due.is("none", x.copy(0, 0, 1, 0, 0), 0);
        Due.is("none at the ends", x.copy(0, 6, 1, 3, 0), 0);
    }

    private static void copyRefusals() {
        EightOars x = withTwo();
        x.sheet(0, 2, 6);
        x.sheet(1, 1, 6);
        x.sheet(3, 2, 2);
        Due.is("SHEET -1", x.copy(-1, 0, 0, 0, 1), -2);
        Due.is("SHEET 4", x.copy(0, 0, 4, 0, 1), -2);
        Due.is("BAD ahead of -11", x.copy(2, 0, 4, 0, 1), -2);
        Due.is("missing", x.copy(2, 0, 0, 0, 1), -11);
        Due.is("the other one missing", x.copy(0, 0, 2, 0, 1), -11);
        Due.is("-11 ahead of -12", x.copy(0, -1, 2, 0, -1), -11);
        Due.is("unlike sorts", x.copy(0, 0, 1, 0, 1), -13);
        Due.is("-13 ahead of -12", x.copy(0, 9, 1, 0, -1), -13);
        int[][] outside = {{-1, 0, 1}, {0, -1, 1}, {0, 0, -1}, {0, 0, 3}, {6, 0, 1}, {0, 2, 1},
            {5, 0, 2}, {0, 1, 2}, {7, 0, 0}, {0, 3, 0}, {Integer.MAX_VALUE, 0, 1},
            {1, 0, Integer.MAX_VALUE}, {0, Integer.MAX_VALUE, Integer.MAX_VALUE},
            {0, 0, Integer.MIN_VALUE}};
        for (int[] told : outside) {
            Due.is("outside", x.copy(0, told[0], 3, told[1], told[2]), -12);
        }
    }
}
