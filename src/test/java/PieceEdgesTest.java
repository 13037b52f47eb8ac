/**
 * The edges of PIECES, WORTH, a QUARREL, GO: promises 20, 21, 22 and 32. Each test stands for the
 * document's sentence above it.
 */
public final class PieceEdgesTest {
    public static void main(String[] args) {
        thirtyPieces();
        whoRowed();
        farther();
        slip();
        worthOfNone();
        worthOfOne();
        worthOfAll();
        worthOfAnother();
        noBound();
        bothBoundsOrNone();
        tightest();
        aChainOfAll();
        quarrelOfTwo();
        quarrelOfOne();
        quarrelInARing();
        quarrelOfOthers();
        toldBits();
        worthAsked();
        goOfNone();
        goOfTwo();
        fewest();
        leastBits();
        firstTwelve();
        allButOneGo();
        goOfTold();
        noPieces();
        tenPieces();
        fromAPlace();
        takenForASort();
        othersAreLeftOut();
        whatStoodAheadCame();
        noRoomForAll();
        Due.end();
    }

    private static EightOars withPieces(int rowers, int[]... pieces) {
        EightOars x = Due.withRowers(rowers);
        for (int[] p : pieces) {
            x.piece(p[0], p[1], p[2], p[3]);
        }
        return x;
    }

    private static int[] p(int a, int b, int farther, int slip) {
        return new int[] {a, b, farther, slip};
    }

    private static void worth(EightOars x, int a, int b, int bits, long least, long most) {
        String name = "WORTH of " + a + " against " + b + " by " + bits;
        Due.is(name + ", least", x.worth(a, b, bits, 0), least);
        Due.is(name + ", most", x.worth(a, b, bits, 1), most);
    }

    /** "PIECES (30 at most, numbered from 0)" */
    private static void thirtyPieces() {
        EightOars x = Due.withRowers(2);
        for (int i = 0; i < 30; i++) {
            Due.is("PIECES", x.count(6), i);
            Due.is("none such yet", x.worth(0, 1, 1 << i, 0), EightOars.NO);
            Due.is("PIECE " + i, x.piece(0, 1, i, 0), i);
        }
        Due.is("the 31st", x.piece(0, 1, 30, 0), -4);
        Due.is("30 PIECES", x.count(6), 30);
        for (int i = 0; i < 30; i++) {
            worth(x, 0, 1, 1 << i, i, i);
        }
    }

    /** "two ROWERS a, b (unlike)" */
    private static void whoRowed() {
        EightOars x = new EightOars();
        Due.is("no ROWER at all", x.piece(0, 1, 5, 5), -2);
        x = Due.withRowers(16);
        Due.is("-1", x.piece(-1, 1, 5, 5), -2);
        Due.is("-1", x.piece(1, -1, 5, 5), -2);
        Due.is("16", x.piece(16, 1, 5, 5), -2);
        Due.is("16", x.piece(1, 16, 5, 5), -2);
        for (int rower = 0; rower < 16; rower++) {
            Due.is("alike", x.piece(rower, rower, 5, 5), -2);
        }
        Due.is("0, 15", x.piece(0, 15, 5, 5), 0);
        Due.is("15, 0", x.piece(15, 0, 5, 5), 1);
        worth(x, 0, 15, 1, 0, 10);
        worth(x, 0, 15, 2, -10, 0);
        worth(x, 0, 15, 3, 0, 0);
    }

    /** "so much (-9999 .. 9999) farther" */
    private static void farther() {
        EightOars x = Due.withRowers(2);
        Due.is("-10000", x.piece(0, 1, -10000, 0), -2);
        Due.is("10000", x.piece(0, 1, 10000, 0), -2);
        Due.is("-9999", x.piece(0, 1, -9999, 0), 0);
        Due.is("9999", x.piece(0, 1, 9999, 0), 1);
        Due.is("0", x.piece(0, 1, 0, 0), 2);
        worth(x, 0, 1, 1, -9999, -9999);
        worth(x, 0, 1, 2, 9999, 9999);
        worth(x, 0, 1, 4, 0, 0);
    }

    /** "give or take a slip (0 .. 999)" */
    private static void slip() {
        EightOars x = Due.withRowers(2);
        Due.is("-1", x.piece(0, 1, 100, -1), -2);
        Due.is("1000", x.piece(0, 1, 100, 1000), -2);
        Due.is("0", x.piece(0, 1, 100, 0), 0);
        Due.is("999", x.piece(0, 1, 100, 999), 1);
        Due.is("1", x.piece(0, 1, 100, 1), 2);
        worth(x, 0, 1, 1, 100, 100);
        worth(x, 0, 1, 2, 100 - 999, 100 + 999);
        worth(x, 0, 1, 4, 99, 101);
    }

    /** "by told PIECES (bits, of 30)": none of them */
    private static void worthOfNone() {
        worth(withPieces(2), 0, 1, 0, -999999, 999999);
        worth(withPieces(2, p(0, 1, 5, 0)), 0, 1, 0, -999999, 999999);
    }

    /** "by told PIECES (bits, of 30)": one of them */
    private static void worthOfOne() {
        EightOars x = withPieces(3, p(0, 1, 7, 2));
        worth(x, 0, 1, 1, 5, 9);
        worth(x, 1, 0, 1, -9, -5);
        worth(x, 0, 2, 1, -999999, 999999);
        worth(x, 1, 2, 1, -999999, 999999);
    }

    /** "by told PIECES (bits, of 30)": all thirty */
    private static void worthOfAll() {
        EightOars x = Due.withRowers(2);
        for (int i = 0; i < 30; i++) {
            x.piece(0, 1, i, 100);
        }
        worth(x, 0, 1, (1 << 30) - 1, -71, 100);
        worth(x, 0, 1, 1 << 29, -71, 129);
        Due.is("a 31st bit", x.worth(0, 1, 1 << 30, 0), EightOars.NO);
        Due.is("all 31 bits", x.worth(0, 1, Integer.MAX_VALUE, 0), EightOars.NO);
        Due.is("the 32nd bit", x.worth(0, 1, Integer.MIN_VALUE, 0), EightOars.NO);
    }

    /** "WORTH of a ROWER against another one": the other way about it is the same below 0 */
    private static void worthOfAnother() {
        EightOars x = withPieces(3, p(0, 1, 10, 2), p(2, 1, 4, 3));
        worth(x, 0, 2, 3, 1, 11);
        worth(x, 2, 0, 3, -11, -1);
        worth(x, 1, 2, 3, -7, -1);
    }

    /** "(-999999, 999999: there is no bound)" */
    private static void noBound() {
        EightOars x = withPieces(16, p(0, 1, 9999, 999), p(14, 15, -9999, 999));
        worth(x, 0, 2, 3, -999999, 999999);
        worth(x, 2, 0, 3, -999999, 999999);
        worth(x, 0, 15, 3, -999999, 999999);
        worth(x, 15, 1, 3, -999999, 999999);
        worth(x, 14, 15, 3, -10998, -9000);
    }

    /** A PIECE bounds both sides: there is a least where there is a most. */
    private static void bothBoundsOrNone() {
        EightOars x = withPieces(4, p(0, 1, 5, 999), p(2, 3, 5, 999), p(1, 2, 0, 0));
        worth(x, 0, 3, 3, -999999, 999999);
        worth(x, 0, 3, 7, 10 - 1998, 10 + 1998);
    }

    /** "the least and the most by which it can be more, so that all these PIECES are kept" */
    private static void tightest() {
        EightOars x = withPieces(4, p(0, 1, 10, 5), p(1, 2, 10, 5), p(0, 2, 12, 1), p(0, 3, 0, 0),
                p(3, 2, 13, 0));
        worth(x, 0, 2, 3, 10, 30);
        worth(x, 0, 2, 7, 11, 13);
        worth(x, 0, 1, 7, 5, 8);
        worth(x, 1, 2, 7, 5, 8);
        worth(x, 0, 2, 24, 13, 13);
        worth(x, 0, 1, 27, 5, 8);
        worth(x, 0, 1, 31, 5, 8);
    }

    /** All sixteen in a chain, in both orders of telling. */
    private static void aChainOfAll() {
        for (int way = 0; way < 2; way++) {
            EightOars x = Due.withRowers(16);
            for (int i = 0; i < 15; i++) {
                int a = way == 0 ? i : 14 - i;
                x.piece(a, a + 1, 9999, 999);
            }
            worth(x, 0, 15, (1 << 15) - 1, 15 * 9000, 15 * 10998);
            worth(x, 15, 0, (1 << 15) - 1, -15 * 10998, -15 * 9000);
            worth(x, 0, 15, (1 << 15) - 2, -999999, 999999);
            worth(x, 0, 15, (1 << 14) - 1, -999999, 999999);
        }
    }

    /** "QUARREL: there are no numbers by which all told PIECES are kept." */
    private static void quarrelOfTwo() {
        worth(withPieces(2, p(0, 1, 10, 2), p(0, 1, 15, 3)), 0, 1, 3, 12, 12);
        worth(withPieces(2, p(0, 1, 10, 2), p(0, 1, 16, 3)), 0, 1, 3, -3, -3);
        worth(withPieces(2, p(0, 1, 10, 2), p(0, 1, 5, 3)), 0, 1, 3, 8, 8);
        worth(withPieces(2, p(0, 1, 10, 2), p(0, 1, 4, 3)), 0, 1, 3, -3, -3);
        worth(withPieces(2, p(0, 1, 10, 2), p(1, 0, -15, 3)), 0, 1, 3, 12, 12);
        worth(withPieces(2, p(0, 1, 10, 2), p(1, 0, -16, 3)), 0, 1, 3, -3, -3);
        worth(withPieces(2, p(0, 1, 1, 0), p(1, 0, 1, 0)), 0, 1, 3, -3, -3);
        worth(withPieces(2, p(0, 1, 0, 0), p(1, 0, 0, 0)), 0, 1, 3, 0, 0);
    }

    /** One PIECE alone is no QUARREL, whatever it says. */
    private static void quarrelOfOne() {
        EightOars x = withPieces(2, p(0, 1, -9999, 0), p(0, 1, 9999, 0));
        worth(x, 0, 1, 1, -9999, -9999);
        worth(x, 0, 1, 2, 9999, 9999);
        worth(x, 0, 1, 3, -3, -3);
    }

    /** A ring of three: it closes, or it does not. */
    private static void quarrelInARing() {
        worth(withPieces(3, p(0, 1, 10, 1), p(1, 2, 10, 1), p(0, 2, 23, 1)), 0, 1, 7, 11, 11);
        worth(withPieces(3, p(0, 1, 10, 1), p(1, 2, 10, 1), p(0, 2, 24, 1)), 0, 1, 7, -3, -3);
        worth(withPieces(3, p(0, 1, 10, 1), p(1, 2, 10, 1), p(2, 0, -17, 1)), 0, 1, 7, 9, 9);
        worth(withPieces(3, p(0, 1, 10, 1), p(1, 2, 10, 1), p(2, 0, -16, 1)), 0, 1, 7, -3, -3);
        EightOars x = Due.withRowers(16);
        for (int i = 0; i < 16; i++) {
            x.piece(i, (i + 1) % 16, i == 15 ? -15 : 1, 0);
        }
        worth(x, 3, 9, 0xFFFF, 6, 6);
        x.piece(7, 8, 2, 0);
        worth(x, 3, 9, 0x1FFFF, -3, -3);
        worth(x, 3, 9, 0x1FF7F, -3, -3);
        worth(x, 3, 9, 0x17F7F, 7, 7);
    }

    /** "STATE: a QUARREL", of ROWERS that were not asked for too */
    private static void quarrelOfOthers() {
        EightOars x = withPieces(4, p(0, 1, 1, 0), p(0, 1, 2, 0), p(2, 3, 5, 0));
        worth(x, 2, 3, 7, -3, -3);
        worth(x, 2, 3, 3, -3, -3);
        worth(x, 2, 3, 5, 5, 5);
        worth(x, 2, 0, 3, -3, -3);
    }

    /** "by told PIECES": those that are not told count for nothing */
    private static void toldBits() {
        EightOars x = withPieces(2, p(0, 1, 1, 0), p(0, 1, 2, 0), p(0, 1, 2, 5));
        worth(x, 0, 1, 1, 1, 1);
        worth(x, 0, 1, 2, 2, 2);
        worth(x, 0, 1, 4, -3, 7);
        worth(x, 0, 1, 5, 1, 1);
        worth(x, 0, 1, 3, -3, -3);
        worth(x, 0, 1, 4, -3, 7);
    }

    /** "NO: none such (PIECES that there aren't, too), alike; STATE: a QUARREL." */
    private static void worthAsked() {
        EightOars x = withPieces(3, p(0, 1, 1, 0), p(0, 1, 2, 0));
        int[][] none = {{-1, 1, 1, 0}, {3, 1, 1, 0}, {1, -1, 1, 0}, {1, 3, 1, 0}, {0, 0, 1, 0},
            {2, 2, 1, 1}, {0, 1, 4, 0}, {0, 1, 5, 0}, {0, 1, -1, 0}, {0, 1, 1, -1}, {0, 1, 1, 2},
            {0, 0, 3, 0}, {0, 3, 3, 0}, {0, 1, 7, 0}, {0, 1, 3, 2}, {0, 1, 3, -1}};
        for (int[] t : none) {
            Due.is("worth(" + t[0] + ", " + t[1] + ", " + t[2] + ", " + t[3] + ")",
                    x.worth(t[0], t[1], t[2], t[3]), EightOars.NO);
        }
        Due.is("a QUARREL", x.worth(0, 1, 3, 0), -3);
        Due.is("a QUARREL", x.worth(0, 1, 3, 1), -3);
        Due.is("no ROWER, no PIECE", new EightOars().worth(0, 1, 0, 0), EightOars.NO);
    }

    /** "GO: the fewest PIECES .. without which there is no QUARREL": of none, of one, of some */
    private static void goOfNone() {
        EightOars x = withPieces(2);
        Due.is("no PIECE", x.go(0), 0);
        Due.is("PIECE 0", x.go(1), -2);
        x.piece(0, 1, 5, 0);
        Due.is("none told", x.go(0), 0);
        Due.is("one", x.go(1), 0);
        x.piece(0, 1, 6, 1);
        Due.is("two that agree", x.go(3), 0);
        Due.is("PIECE 2", x.go(4), -2);
        Due.is("below 0", x.go(-1), -2);
    }

    /** "of like ones the least as bits": two that quarrel */
    private static void goOfTwo() {
        EightOars x = withPieces(2, p(0, 1, 5, 0), p(0, 1, 7, 1));
        Due.is("the first goes", x.go(3), 1);
        Due.is("one alone", x.go(1), 0);
        Due.is("the other alone", x.go(2), 0);
    }

    /** "the fewest": one that is greater as bits ahead of two that are less */
    private static void fewest() {
        EightOars x = withPieces(2, p(0, 1, 5, 0), p(0, 1, 5, 0), p(0, 1, 9, 0));
        Due.is("the last alone", x.go(7), 4);
        x = withPieces(2, p(0, 1, 5, 1), p(0, 1, 7, 1), p(0, 1, 9, 1));
        Due.is("the one between agrees with both", x.go(7), 1);
        x = withPieces(4, p(0, 1, 5, 0), p(1, 2, 5, 0), p(2, 3, 5, 0), p(0, 2, 11, 0), p(1, 3, 11, 0));
        Due.is("the one in both rings", x.go(31), 2);
    }

    /** "of like ones the least as bits": the greatest of them is as small as can be */
    private static void leastBits() {
        EightOars x = withPieces(4, p(2, 3, 1, 0), p(0, 1, 1, 0), p(0, 1, 2, 0), p(2, 3, 2, 0));
        Due.is("0 or 3, and 1 or 2", x.go(15), 3);
        x = withPieces(2, p(0, 1, 1, 0), p(0, 1, 2, 0), p(0, 1, 2, 0), p(0, 1, 1, 0), p(0, 1, 3, 0));
        Due.is("1, 2, 4 or 0, 3, 4", x.go(31), 16 + 4 + 2);
    }

    /** "PIECES of the first 12"; "BAD: PIECES (beyond the first 12, too)." */
    private static void firstTwelve() {
        EightOars x = Due.withRowers(2);
        for (int i = 0; i < 12; i++) {
            x.piece(0, 1, i == 11 ? 2 : 1, 0);
        }
        Due.is("PIECE 12, which there isn't", x.go(1 << 12), -2);
        Due.is("all 12", x.go(0xFFF), 1 << 11);
        Due.is("the 12th and the 11th", x.go(0xC00), 1 << 10);
        for (int i = 12; i < 30; i++) {
            x.piece(0, 1, 1, 0);
            Due.is("beyond: " + i, x.go(1 << i), -2);
            Due.is("beyond and all: " + i, x.go((1 << i) + 0xFFF), -2);
        }
        Due.is("all 12 still", x.go(0xFFF), 1 << 11);
        Due.is("all 30", x.go((1 << 30) - 1), -2);
        Due.is("a 32nd", x.go(Integer.MIN_VALUE), -2);
    }

    /** As many as there can be go, but one. */
    private static void allButOneGo() {
        EightOars x = Due.withRowers(2);
        for (int i = 0; i < 12; i++) {
            x.piece(0, 1, 100 * i, 49);
        }
        Due.is("the last is kept", x.go(0xFFF), 0x7FF);
        Due.is("of the even ones", x.go(0x555), 0x155);
        x = Due.withRowers(2);
        for (int i = 0; i < 12; i++) {
            x.piece(0, 1, 100 * i, 50);
        }
        Due.is("neighbours agree", x.go(0xFFF), 0x3FF);
    }

    /** "(of told bits)" */
    private static void goOfTold() {
        EightOars x = withPieces(2, p(0, 1, 1, 0), p(0, 1, 2, 0), p(0, 1, 2, 0), p(0, 1, 1, 0));
        Due.is("0 and 1", x.go(3), 1);
        Due.is("1 and 2", x.go(6), 0);
        Due.is("0 and 3", x.go(9), 0);
        Due.is("0, 1, 3", x.go(11), 2);
        Due.is("0, 2, 3", x.go(13), 4);
        Due.is("1, 2, 3", x.go(14), 8);
        Due.is("all: two of each", x.go(15), 6);
    }

    /** "n of them (0 .. 10)"; "-11 (also with n 0)" */
    private static void noPieces() {
        EightOars x = Due.withRowers(2);
        Due.is("n -1", x.pieces(0, 0, 0, -1), -2);
        Due.is("a missing SHEET, n 0", x.pieces(0, 0, 0, 0), -11);
        Due.sheet(x, 0, 0, 0, 1, 5, 5);
        Due.is("n 0", x.pieces(0, 0, 0, 0), 0);
        Due.is("n 0 of another sort", x.pieces(0, 1, 0, 0), -13);
        Due.is("n 0 from a place outside", x.pieces(0, 0, 100, 0), 0);
        Due.is("none came", x.count(6), 0);
        x.sheet(1, 2, 0);
        Due.is("n 0 of an empty SHEET", x.pieces(1, 2, 0, 0), 0);
        Due.is("n 1 of an empty SHEET", x.pieces(1, 2, 0, 1), -12);
    }

    /** "n of them (0 .. 10)" */
    private static void tenPieces() {
        EightOars x = Due.withRowers(2);
        x.sheet(0, 2, 40);
        for (int i = 0; i < 10; i++) {
            x.cell(0, 4 * i + 1, 1);
            x.cell(0, 4 * i + 2, 100 + i);
        }
        Due.is("n 11", x.pieces(0, 2, 0, 11), -2);
        Due.is("n 1", x.pieces(0, 2, 0, 1), 1);
        Due.is("n 10", x.pieces(0, 2, 0, 10), 10);
        worth(x, 0, 1, 1 << 1, 100, 100);
        worth(x, 0, 1, 1 << 10, 109, 109);
        Due.is("PIECES", x.count(6), 11);
    }

    /** "from one on, four by four (as of piece())" */
    private static void fromAPlace() {
        EightOars x = Due.withRowers(3);
        Due.sheet(x, 0, 2, 9, 0, 1, 50, 7, 2, 1, -60, 8);
        Due.is("from 1, two", x.pieces(0, 2, 1, 2), 2);
        worth(x, 0, 1, 1, 43, 57);
        worth(x, 2, 1, 2, -68, -52);
        Due.is("from 5, the last", x.pieces(0, 2, 5, 1), 1);
        worth(x, 2, 1, 4, -68, -52);
        Due.is("from 6", x.pieces(0, 2, 6, 1), -12);
        Due.is("from -1", x.pieces(0, 2, -1, 1), -12);
        Due.is("from 9", x.pieces(0, 2, 9, 1), -12);
        Due.is("three came", x.count(6), 3);
    }

    /** "a SHEET that is taken for one of a sort"; "BAD: no such SHEET, sort, n; -13" */
    private static void takenForASort() {
        EightOars x = Due.withRowers(2);
        for (int sheet = 0; sheet < 3; sheet++) {
            Due.sheet(x, sheet, sheet, 1, 0, 100, 28);
            for (int sort = -2; sort < 5; sort++) {
                int due = sort < 0 || sort > 2 ? -2 : sort == sheet ? 1 : -13;
                Due.is("SHEET of " + sheet + " for " + sort, x.pieces(sheet, sort, 0, 1), due);
            }
        }
        Due.is("SHEET -1", x.pieces(-1, 0, 0, 1), -2);
        Due.is("SHEET 4", x.pieces(4, 0, 0, 1), -2);
        Due.is("SHEET 3 is missing", x.pieces(3, 0, 0, 1), -11);
        Due.is("three came", x.count(6), 3);
        for (int i = 0; i < 3; i++) {
            worth(x, 1, 0, 1 << i, 72, 128);
        }
    }

    /** "how many came (others are left out)" */
    private static void othersAreLeftOut() {
        EightOars x = Due.withRowers(2);
        Due.sheet(x, 0, 2, 0, 0, 1, 1, 0, 2, 1, 1, -1, 0, 1, 1, 0, 1, 10000, 1, 0, 1, -10000, 1,
                0, 1, 1, -1, 0, 1, 1, 1000, 0, 1, 9999, 999, 1, 0, -9999, 0);
        Due.is("none of the first seven", x.pieces(0, 2, 0, 7), 0);
        Due.is("two of nine", x.pieces(0, 2, 0, 9), 2);
        Due.is("two came", x.count(6), 2);
        worth(x, 0, 1, 1, 9000, 10998);
        worth(x, 0, 1, 2, 9999, 9999);
    }

    /** "-12: what stood ahead came" */
    private static void whatStoodAheadCame() {
        EightOars x = Due.withRowers(2);
        Due.sheet(x, 0, 2, 0, 1, 11, 0, 0, 1, 12, 0, 0, 1, 13);
        Due.is("three of eleven numbers", x.pieces(0, 2, 0, 3), -12);
        Due.is("two came", x.count(6), 2);
        worth(x, 0, 1, 1, 11, 11);
        worth(x, 0, 1, 2, 12, 12);
        Due.is("two", x.pieces(0, 2, 0, 2), 2);
        Due.is("one from 8", x.pieces(0, 2, 8, 1), -12);
        Due.is("none of it came", x.count(6), 4);
    }

    /** "others are left out": those for which there is no room */
    private static void noRoomForAll() {
        EightOars x = Due.withRowers(2);
        for (int i = 0; i < 28; i++) {
            x.piece(0, 1, 5, 5);
        }
        Due.sheet(x, 0, 2, 0, 0, 1, 1, 0, 1, 1, 1, 0, 1, 2, 1, 0, 1, 3, 1);
        Due.is("two of four", x.pieces(0, 2, 0, 4), 2);
        Due.is("30 PIECES", x.count(6), 30);
        worth(x, 0, 1, 1 << 28, 0, 2);
        worth(x, 0, 1, 1 << 29, 1, 3);
        Due.is("none of four", x.pieces(0, 2, 0, 4), 0);
        Due.is("a place outside is one still", x.pieces(0, 2, 0, 5), -12);
    }
}
