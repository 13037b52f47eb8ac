/**
 * The edges of SHEETS: promises 29 to 31. Each test stands for the document's sentence above it.
 * Items are told by PIECES (see Whole.item), so that they lie within -9999 .. 9999.
 */
public final class SheetEdgesTest {
    public static void main(String[] args) {
        missingAtFirst();
        sheets();
        sorts();
        sizes();
        sizesBelow();
        allNought();
        missingAgain();
        sheetRefusals();
        cells();
        bytes();
        shorts();
        ints();
        cellRefusals();
        copiedAll();
        copiedNone();
        copiedToTheEnds();
        copiedOnItself();
        copiedAsTheyWere();
        copyRefusals();
        unlikeSorts();
        sheetsApart();
        Due.end();
    }

    private static void items(String name, EightOars x, int sheet, int sort, int... due) {
        for (int i = 0; i < due.length; i++) {
            Due.is(name + ", item " + i, Whole.item(x, sheet, sort, i), due[i]);
        }
    }

    /** "or missing (as all are at first)" */
    private static void missingAtFirst() {
        EightOars x = new EightOars();
        for (int sheet = 0; sheet < 4; sheet++) {
            Due.is("cell", x.cell(sheet, 0, 0), -11);
            Due.is("race", x.race(sheet), -11);
            Due.is("copy", x.copy(sheet, 0, sheet, 0, 0), -11);
            Due.is("pieces", x.pieces(sheet, 0, 0, 0), -11);
        }
    }

    /** "SHEETS 0 .. 3" */
    private static void sheets() {
        EightOars x = new EightOars();
        for (int sheet = -2; sheet < 6; sheet++) {
            int due = sheet >= 0 && sheet < 4 ? 1 : -2;
            Due.is("sheet " + sheet, x.sheet(sheet, 0, 1), due);
            Due.is("cell of " + sheet, x.cell(sheet, 0, 1), due);
            Due.is("copy of " + sheet, x.copy(sheet, 0, 0, 0, 1), due);
            Due.is("copy on " + sheet, x.copy(0, 0, sheet, 0, 1), due);
            Due.is("missing " + sheet, x.sheet(sheet, -1, 1), due);
            x.sheet(0, 0, 1);
        }
    }

    /** "of sort 0 bytes, 1 shorts, 2 ints"; "or missing (sort -1 ..)" */
    private static void sorts() {
        EightOars x = new EightOars();
        int[] due = {-2, -2, 1, 1, 1, 1, -2, -2};
        for (int sort = -3; sort < 5; sort++) {
            Due.is("sort " + sort, x.sheet(1, sort, 1), due[sort + 3]);
        }
        Due.is("the least int", x.sheet(1, Integer.MIN_VALUE, 1), -2);
        Due.is("the most", x.sheet(1, Integer.MAX_VALUE, 1), -2);
    }

    /** "a row of n of a sort": nothing, one, as many as there can be, one more; "n above 40" */
    private static void sizes() {
        for (int sort = 0; sort < 3; sort++) {
            EightOars x = new EightOars();
            for (int n = 0; n <= 40; n++) {
                Due.is("n " + n, x.sheet(2, sort, n), 1);
                Due.is("its last", x.cell(2, n - 1, 1), n == 0 ? -12 : 1);
                Due.is("behind its last", x.cell(2, n, 1), -12);
            }
            Due.is("n 41", x.sheet(2, sort, 41), -2);
            Due.is("the most", x.sheet(2, sort, Integer.MAX_VALUE), -2);
            Due.is("it is of 40 still", x.cell(2, 39, 1), 1);
            Due.is("and no more", x.cell(2, 40, 1), -12);
        }
    }

    /** "-14 a size below 0" */
    private static void sizesBelow() {
        EightOars x = new EightOars();
        x.sheet(2, 1, 3);
        for (int sort = 0; sort < 3; sort++) {
            Due.is("n -1", x.sheet(2, sort, -1), -14);
            Due.is("the least", x.sheet(2, sort, Integer.MIN_VALUE), -14);
            Due.is("n -1 of a missing one", x.sheet(3, sort, -1), -14);
        }
        Due.is("it is of 3 still", x.copy(2, 0, 2, 0, 3), 3);
        Due.is("and of shorts", x.pieces(2, 1, 0, 0), 0);
        Due.is("missing still", x.cell(3, 0, 0), -11);
    }

    /** "A SHEET becomes a row of n of a sort, all 0" */
    private static void allNought() {
        for (int sort = 0; sort < 3; sort++) {
            EightOars x = Due.withRowers(2);
            x.sheet(0, sort, 8);
            for (int i = 0; i < 8; i++) {
                x.cell(0, i, 7);
            }
            x.sheet(0, sort, 8);
            items("anew", x, 0, sort, 0, 0, 0, 0, 0, 0, 0, 0);
            x.cell(0, 7, 7);
            x.sheet(0, sort, 2);
            x.sheet(0, sort, 8);
            items("shorter between", x, 0, sort, 0, 0, 0, 0, 0, 0, 0, 0);
            x.cell(0, 7, 7);
            x.sheet(0, -1, 0);
            x.sheet(0, sort, 8);
            items("missing between", x, 0, sort, 0, 0, 0, 0, 0, 0, 0, 0);
        }
    }

    /** "or missing (sort -1: n does not matter): 1" */
    private static void missingAgain() {
        EightOars x = new EightOars();
        for (int n : new int[] {0, 40, 41, -1, Integer.MAX_VALUE, Integer.MIN_VALUE}) {
            x.sheet(0, 2, 5);
            Due.is("missing by " + n, x.sheet(0, -1, n), 1);
            Due.is("it is", x.cell(0, 0, 0), -11);
            Due.is("missing again", x.sheet(0, -1, n), 1);
        }
    }

    /** "BAD: no such SHEET, sort; n above 40; -14." */
    private static void sheetRefusals() {
        EightOars x = new EightOars();
        Due.is("SHEET, and n below 0", x.sheet(4, 0, -1), -2);
        Due.is("SHEET, and n below 0", x.sheet(-1, 2, -1), -2);
        Due.is("sort, and n below 0", x.sheet(0, 3, -1), -2);
        Due.is("sort, and n below 0", x.sheet(0, -2, -1), -2);
        Due.is("SHEET, and sort -1", x.sheet(4, -1, 0), -2);
        Due.is("SHEET, and sort -1", x.sheet(-1, -1, 0), -2);
        Due.is("n below 0", x.sheet(0, 0, -1), -14);
    }

    /** "Item i of a SHEET becomes v .. : 1" */
    private static void cells() {
        for (int sort = 0; sort < 3; sort++) {
            EightOars x = Due.withRowers(2);
            x.sheet(0, sort, 3);
            Due.is("the first", x.cell(0, 0, 5), 1);
            items("the first", x, 0, sort, 5, 0, 0);
            Due.is("the last", x.cell(0, 2, -6), 1);
            items("the last", x, 0, sort, 5, 0, -6);
            Due.is("the first again", x.cell(0, 0, 0), 1);
            items("the first again", x, 0, sort, 0, 0, -6);
        }
    }

    private static void becomes(int sort, int v, int due) {
        EightOars x = Due.withRowers(2);
        x.sheet(0, sort, 1);
        Due.is("cell " + v, x.cell(0, 0, v), 1);
        Due.is(v + " in sort " + sort, Whole.item(x, 0, sort, 0), due);
    }

    /** "of bytes .. its lowest 8 .. bits"; "(with their sign)" */
    private static void bytes() {
        int[][] due = {{0, 0}, {1, 1}, {-1, -1}, {127, 127}, {128, -128}, {129, -127}, {255, -1},
            {256, 0}, {257, 1}, {-128, -128}, {-129, 127}, {-256, 0}, {383, 127}, {384, -128},
            {Integer.MAX_VALUE, -1}, {Integer.MIN_VALUE, 0}, {0x12345678, 0x78}};
        for (int[] pair : due) {
            becomes(0, pair[0], pair[1]);
        }
    }

    /** "of .. shorts its lowest .. 16 bits"; "(with their sign)" */
    private static void shorts() {
        int[][] due = {{0, 0}, {-1, -1}, {128, 128}, {255, 255}, {256, 256}, {9999, 9999},
            {-9999, -9999}, {65535, -1}, {65536, 0}, {65537, 1}, {65536 + 9999, 9999},
            {65536 - 9999, -9999}, {-65536 - 1, -1}, {Integer.MAX_VALUE, -1},
            {Integer.MIN_VALUE, 0}, {0x12340678, 0x678}};
        for (int[] pair : due) {
            becomes(1, pair[0], pair[1]);
        }
        EightOars x = Due.withRowers(2);
        Due.sheet(x, 0, 1, 0, 1, 32767, 0, 0, 1, 32768, 0);
        Due.is("neither is a PIECE's number", x.pieces(0, 1, 0, 2), 0);
    }

    /** Ints are as they are. */
    private static void ints() {
        int[] values = {0, 1, -1, 127, 128, 255, 256, -129, 9999, -9999};
        for (int v : values) {
            becomes(2, v, v);
        }
        EightOars x = Due.withRowers(2);
        for (int v : new int[] {65536, 65537, 0x1000000, Integer.MAX_VALUE, Integer.MIN_VALUE}) {
            Due.sheet(x, 0, 2, 0, 1, v, 0);
            Due.is("no PIECE's number: " + v, x.pieces(0, 2, 0, 1), 0);
        }
    }

    /** "BAD: no such SHEET; -11; -12." */
    private static void cellRefusals() {
        EightOars x = new EightOars();
        Due.is("SHEET -1", x.cell(-1, 0, 0), -2);
        Due.is("SHEET 4", x.cell(4, 0, 0), -2);
        Due.is("SHEET 4, item -1", x.cell(4, -1, 0), -2);
        Due.is("missing", x.cell(0, 0, 0), -11);
        Due.is("missing, item -1", x.cell(0, -1, 0), -11);
        x.sheet(0, 0, 2);
        Due.is("item -1", x.cell(0, -1, 0), -12);
        Due.is("item 0", x.cell(0, 0, 0), 1);
        Due.is("item 1", x.cell(0, 1, 0), 1);
        Due.is("item 2", x.cell(0, 2, 0), -12);
        Due.is("the least", x.cell(0, Integer.MIN_VALUE, 0), -12);
        Due.is("the most", x.cell(0, Integer.MAX_VALUE, 0), -12);
    }

    private static EightOars counted(int sort) {
        EightOars x = Due.withRowers(2);
        Due.sheet(x, 0, sort, 11, 12, 13, 14, 15, 16);
        Due.sheet(x, 1, sort, 21, 22, 23, 24);
        return x;
    }

    /** "n numbers of a SHEET .. come to another one's .. item j on": all of them, and one more */
    private static void copiedAll() {
        for (int sort = 0; sort < 3; sort++) {
            EightOars x = counted(sort);
            Due.is("all four", x.copy(1, 0, 0, 0, 4), 4);
            items("all four", x, 0, sort, 21, 22, 23, 24, 15, 16);
            items("all four", x, 1, sort, 21, 22, 23, 24);
            Due.is("five", x.copy(1, 0, 0, 0, 5), -12);
            Due.is("five", x.copy(0, 0, 1, 0, 5), -12);
            items("as it was", x, 1, sort, 21, 22, 23, 24);
            Due.is("one", x.copy(0, 5, 1, 3, 1), 1);
            items("one", x, 1, sort, 21, 22, 23, 16);
        }
        EightOars x = new EightOars();
        x.sheet(0, 0, 40);
        x.sheet(1, 0, 40);
        Due.is("forty", x.copy(0, 0, 1, 0, 40), 40);
        Due.is("41", x.copy(0, 0, 1, 0, 41), -12);
    }

    /** n 0: no number comes, but the places must be there. */
    private static void copiedNone() {
        EightOars x = counted(1);
        Due.is("none", x.copy(0, 0, 1, 0, 0), 0);
        Due.is("none behind the last", x.copy(0, 6, 1, 4, 0), 0);
        Due.is("none from 7", x.copy(0, 7, 1, 0, 0), -12);
        Due.is("none to 5", x.copy(0, 0, 1, 5, 0), -12);
        Due.is("none from -1", x.copy(0, -1, 1, 0, 0), -12);
        Due.is("none to -1", x.copy(0, 0, 1, -1, 0), -12);
        items("as it was", x, 1, 1, 21, 22, 23, 24);
        x.sheet(2, 1, 0);
        Due.is("none of an empty one", x.copy(2, 0, 2, 0, 0), 0);
        Due.is("one of an empty one", x.copy(2, 0, 2, 0, 1), -12);
    }

    /** "-12": on both sides of both ends */
    private static void copiedToTheEnds() {
        EightOars x = counted(2);
        for (int i = -1; i <= 7; i++) {
            for (int j = -1; j <= 5; j++) {
                for (int n = -1; n <= 5; n++) {
                    boolean inside = n >= 0 && i >= 0 && i + n <= 6 && j >= 0 && j + n <= 4;
                    Due.is("copy(0, " + i + ", 1, " + j + ", " + n + ")", x.copy(0, i, 1, j, n),
                            inside ? n : -12);
                }
            }
            x = counted(2);
        }
    }

    /** "come to another one's (or its own) item j on" */
    private static void copiedOnItself() {
        for (int sort = 0; sort < 3; sort++) {
            EightOars x = counted(sort);
            Due.is("one place on", x.copy(0, 0, 0, 1, 5), 5);
            items("one place on", x, 0, sort, 11, 11, 12, 13, 14, 15);
            x = counted(sort);
            Due.is("one place back", x.copy(0, 1, 0, 0, 5), 5);
            items("one place back", x, 0, sort, 12, 13, 14, 15, 16, 16);
            x = counted(sort);
            Due.is("on its place", x.copy(0, 2, 0, 2, 4), 4);
            items("on its place", x, 0, sort, 11, 12, 13, 14, 15, 16);
        }
    }

    /** "(as they were)": none is copied that was copied ahead */
    private static void copiedAsTheyWere() {
        EightOars x = counted(2);
        Due.is("two places on", x.copy(0, 0, 0, 2, 4), 4);
        items("two places on", x, 0, 2, 11, 12, 11, 12, 13, 14);
        x = counted(2);
        Due.is("two places back", x.copy(0, 2, 0, 0, 4), 4);
        items("two places back", x, 0, 2, 13, 14, 15, 16, 15, 16);
        x = counted(0);
        x.cell(0, 0, -128);
        Due.is("a number below 0", x.copy(0, 0, 1, 3, 1), 1);
        items("a number below 0", x, 1, 0, 21, 22, 23, -128);
    }

    /** "BAD: no such SHEET; -11; -13: they are of unlike sorts; -12 (also with n below 0)." */
    private static void copyRefusals() {
        EightOars x = counted(1);
        x.sheet(2, 0, 4);
        Due.is("no such SHEET, the other missing", x.copy(-1, 0, 3, 0, 1), -2);
        Due.is("missing, no such SHEET", x.copy(3, 0, 4, 0, 1), -2);
        Due.is("no such SHEET, n below 0", x.copy(0, 0, 4, 0, -1), -2);
        Due.is("missing, n below 0", x.copy(0, 0, 3, 0, -1), -11);
        Due.is("missing, n below 0", x.copy(3, 0, 0, 0, -1), -11);
        Due.is("missing, outside", x.copy(3, 99, 2, 99, 1), -11);
        Due.is("unlike, n below 0", x.copy(0, 0, 2, 0, -1), -13);
        Due.is("unlike, outside", x.copy(0, 99, 2, 0, 1), -13);
        Due.is("n below 0", x.copy(0, 0, 1, 0, -1), -12);
        Due.is("n below 0 from behind", x.copy(0, 6, 1, 4, -1), -12);
        Due.is("the least n", x.copy(0, 0, 1, 0, Integer.MIN_VALUE), -12);
        Due.is("the most n", x.copy(0, 1, 1, 1, Integer.MAX_VALUE), -12);
        Due.is("all the most", x.copy(0, Integer.MAX_VALUE, 1, Integer.MAX_VALUE, Integer.MAX_VALUE), -12);
        items("as it was", x, 1, 1, 21, 22, 23, 24);
    }

    /** "-13: they are of unlike sorts": each two */
    private static void unlikeSorts() {
        EightOars x = new EightOars();
        for (int one = 0; one < 3; one++) {
            for (int other = 0; other < 3; other++) {
                x.sheet(0, one, 4);
                x.sheet(1, other, 4);
                int due = one == other ? 4 : -13;
                Due.is("sorts " + one + ", " + other, x.copy(0, 0, 1, 0, 4), due);
                Due.is("none of sorts " + one + ", " + other, x.copy(0, 0, 1, 0, 0), one == other ? 0 : -13);
            }
        }
    }

    /** SHEETS are apart: what becomes of one does not come to another. */
    private static void sheetsApart() {
        EightOars x = counted(2);
        x.copy(0, 0, 1, 0, 4);
        x.cell(0, 0, 99);
        items("the copy is as it was", x, 1, 2, 11, 12, 13, 14);
        x.cell(1, 1, 98);
        items("so is the first", x, 0, 2, 99, 12, 13, 14);
        x.sheet(0, -1, 0);
        items("the other one stays", x, 1, 2, 11, 98, 13, 14);
    }
}
