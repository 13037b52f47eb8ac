/**
 * The edges of RACES, LANES' WORTH, FAIR: promises 23 to 25. Each test stands for the document's
 * sentence above it.
 */
public final class RaceEdgesTest {
    public static void main(String[] args) {
        twentyRaces();
        times();
        timesOfASort();
        sizes();
        refusals();
        sheetsAreCopied();
        lanes();
        bothWereRowed();
        lowestTerms();
        noneByOne();
        farthestApart();
        half();
        firstAlike();
        aLaneOfNone();
        allOfTwenty();
        Due.end();
    }

    /** "RACES (20 at most, numbered from 0)" */
    private static void twentyRaces() {
        EightOars x = new EightOars();
        for (int i = 0; i < 20; i++) {
            Due.is("RACES", x.count(7), i);
            Due.is("RACE " + i, Due.race(x, 1, 2, 0, 0, 0, 0), i);
        }
        Due.is("the 21st", Due.race(x, 5, 2, 0, 0, 0, 0), -4);
        Due.is("20 RACES", x.count(7), 20);
        Due.is("as they were", x.lanes(0, 1, 0), -1);
        Due.is("as they were", x.lanes(0, 1, 1), 1);
    }

    /** "a time of each (0 .. 9999; 0: nobody)" */
    private static void times() {
        for (int lane = 0; lane < 6; lane++) {
            EightOars x = new EightOars();
            int[] t = {5, 5, 5, 5, 5, 5};
            t[lane] = -1;
            Due.is("-1", Due.race(x, t), -2);
            t[lane] = 10000;
            Due.is("10000", Due.race(x, t), -2);
            t[lane] = Integer.MIN_VALUE;
            Due.is("the least int", Due.race(x, t), -2);
            t[lane] = Integer.MAX_VALUE;
            Due.is("the most", Due.race(x, t), -2);
            Due.is("none came", x.count(7), 0);
            t[lane] = 0;
            Due.is("0", Due.race(x, t), 0);
            int other = lane == 0 ? 1 : 0;
            Due.is("0 is nobody", x.lanes(lane, other, 0), 0);
            t[lane] = 9999;
            Due.is("9999", Due.race(x, t), 1);
            Due.is("9999 less 5", x.lanes(lane, other, 0), 9994);
            t[lane] = 1;
            Due.is("1", Due.race(x, t), 2);
            Due.is("9994 less 4, by 2", x.lanes(lane, other, 0), 4995);
        }
    }

    /** "A RACE by a SHEET (times of LANES 0 .. 5)": of each sort, bytes and shorts with their sign */
    private static void timesOfASort() {
        EightOars x = new EightOars();
        Due.sheet(x, 0, 0, 1, 127, 0, 0, 0, 0);
        Due.is("bytes", x.race(0), 0);
        Due.is("127", x.lanes(1, 0, 0), 126);
        x.cell(0, 5, 128);
        Due.is("-128", x.race(0), -2);
        Due.sheet(x, 1, 1, 0, 0, 9999, 1, 0, 0);
        Due.is("shorts", x.race(1), 1);
        Due.is("9999", x.lanes(2, 3, 0), 9998);
        x.cell(1, 0, 65535);
        Due.is("-1", x.race(1), -2);
        x.cell(1, 0, 10000);
        Due.is("10000", x.race(1), -2);
        x.cell(1, 0, 65536);
        Due.is("0", x.race(1), 2);
        Due.sheet(x, 2, 2, 0, 0, 0, 0, 9999, 1);
        Due.is("ints", x.race(2), 3);
        x.cell(2, 0, 65536);
        Due.is("65536", x.race(2), -2);
    }

    /** "BAD: its size isn't 6" */
    private static void sizes() {
        EightOars x = new EightOars();
        for (int n = 0; n <= 40; n++) {
            x.sheet(1, 1, n);
            Due.is("size " + n, x.race(1), n == 6 ? 0 : -2);
        }
        Due.is("one came", x.count(7), 1);
    }

    /** "BAD: no such SHEET; -11; BAD: its size isn't 6, a time; FULL." */
    private static void refusals() {
        EightOars x = new EightOars();
        Due.is("SHEET -1", x.race(-1), -2);
        Due.is("SHEET 4", x.race(4), -2);
        for (int sheet = 0; sheet < 4; sheet++) {
            Due.is("missing", x.race(sheet), -11);
            x.sheet(sheet, 0, 6);
            Due.is("SHEET " + sheet, x.race(sheet), sheet);
            x.sheet(sheet, -1, 6);
            Due.is("missing again", x.race(sheet), -11);
        }
        x.sheet(0, 2, 6);
        for (int i = 4; i < 20; i++) {
            x.race(0);
        }
        Due.is("FULL", x.race(0), -4);
        x.cell(0, 3, -1);
        Due.is("a time ahead of FULL", x.race(0), -2);
        x.sheet(0, 2, 7);
        Due.is("its size ahead of FULL", x.race(0), -2);
        Due.is("missing ahead of FULL", x.race(1), -11);
        Due.is("no such SHEET ahead of FULL", x.race(4), -2);
    }

    /** A RACE is as its SHEET was: what becomes of the SHEET then does not matter. */
    private static void sheetsAreCopied() {
        EightOars x = new EightOars();
        Due.sheet(x, 0, 2, 7, 4, 0, 0, 0, 0);
        x.race(0);
        x.cell(0, 0, 100);
        Due.is("as it was", x.lanes(0, 1, 0), 3);
        x.sheet(0, -1, 0);
        Due.is("as it was", x.lanes(0, 1, 0), 3);
    }

    /** "LANES 0 .. 5"; "NO: LANES (alike, too), part." */
    private static void lanes() {
        EightOars x = new EightOars();
        Due.race(x, 1, 2, 4, 8, 16, 32);
        for (int a = -1; a < 7; a++) {
            for (int b = -1; b < 7; b++) {
                boolean are = a >= 0 && a < 6 && b >= 0 && b < 6 && a != b;
                for (int part = -1; part < 3; part++) {
                    long due = EightOars.NO;
                    if (are && part == 0) {
                        due = (1 << a) - (1 << b);
                    } else if (are && part == 1) {
                        due = 1;
                    }
                    Due.is("lanes(" + a + ", " + b + ", " + part + ")", x.lanes(a, b, part), due);
                }
            }
        }
    }

    private static void worth(EightOars x, int a, int b, long above, long below) {
        Due.is("LANES " + a + ", " + b + " above", x.lanes(a, b, 0), above);
        Due.is("LANES " + a + ", " + b + " below", x.lanes(a, b, 1), below);
        Due.is("LANES " + b + ", " + a + " above", x.lanes(b, a, 0), -above);
        Due.is("LANES " + b + ", " + a + " below", x.lanes(b, a, 1), below);
    }

    /** "of all RACES in which both LANES were rowed" */
    private static void bothWereRowed() {
        EightOars x = new EightOars();
        Due.race(x, 9, 0, 0, 0, 0, 0);
        Due.race(x, 0, 9, 0, 0, 0, 0);
        worth(x, 0, 1, 0, 1);
        Due.race(x, 9, 4, 0, 0, 0, 0);
        worth(x, 0, 1, 5, 1);
        Due.race(x, 9999, 0, 0, 0, 0, 1);
        worth(x, 0, 1, 5, 1);
        Due.race(x, 1, 2, 0, 0, 0, 0);
        worth(x, 0, 1, 2, 1);
        Due.race(x, 1, 2, 0, 0, 0, 0);
        worth(x, 0, 1, 1, 1);
    }

    /** "together, by how many (lowest terms ..)" */
    private static void lowestTerms() {
        EightOars x = new EightOars();
        int[] differences = {1, 2, 3, 3, 1, 2};
        long[][] due = {{1, 1}, {3, 2}, {2, 1}, {9, 4}, {2, 1}, {2, 1}};
        for (int i = 0; i < differences.length; i++) {
            Due.race(x, 0, 100 + differences[i], 100, 0, 0, 0);
            worth(x, 1, 2, due[i][0], due[i][1]);
        }
        Due.race(x, 0, 100, 100 + 12 + 7, 0, 0, 0);
        worth(x, 1, 2, -1, 1);
        Due.race(x, 0, 100, 101, 0, 0, 0);
        worth(x, 1, 2, -1, 1);
        Due.race(x, 0, 100, 103, 0, 0, 0);
        worth(x, 1, 2, -11, 9);
        Due.race(x, 0, 104, 100, 0, 0, 0);
        worth(x, 1, 2, -7, 10);
        Due.race(x, 0, 107, 100, 0, 0, 0);
        worth(x, 1, 2, 0, 1);
    }

    /** "0 by 1 of none" */
    private static void noneByOne() {
        EightOars x = new EightOars();
        worth(x, 0, 5, 0, 1);
        Due.race(x, 0, 0, 0, 0, 0, 0);
        worth(x, 0, 5, 0, 1);
        Due.race(x, 7, 7, 7, 7, 7, 0);
        worth(x, 0, 5, 0, 1);
        Due.race(x, 7, 7, 7, 7, 7, 7);
        worth(x, 0, 5, 0, 1);
    }

    /** As far apart as twenty RACES can bring it. */
    private static void farthestApart() {
        EightOars x = new EightOars();
        for (int i = 0; i < 19; i++) {
            Due.race(x, 9999, 1, 0, 0, 0, 0);
        }
        worth(x, 0, 1, 9998, 1);
        Due.race(x, 9998, 1, 0, 0, 0, 0);
        worth(x, 0, 1, 19 * 9998 + 9997, 20);
    }

    /** "in no less than half (rounded up) of RACES in which they were rowed came in first" */
    private static void half() {
        for (int rowed = 1; rowed <= 20; rowed++) {
            for (int won = 0; won <= rowed; won++) {
                EightOars x = new EightOars();
                for (int i = 0; i < rowed; i++) {
                    Due.race(x, 0, i < won ? 5 : 7, 0, 6, 0, 0);
                }
                int bits = 0;
                bits += won >= (rowed + 1) / 2 ? 2 : 0;
                bits += rowed - won >= (rowed + 1) / 2 ? 8 : 0;
                Due.is(won + " of " + rowed, x.fair(), bits);
            }
        }
    }

    /** "came in first (alone, or alike with others)" */
    private static void firstAlike() {
        EightOars x = new EightOars();
        Due.race(x, 5, 5, 5, 5, 5, 5);
        Due.is("all alike", x.fair(), 63);
        x = new EightOars();
        Due.race(x, 6, 5, 5, 5, 5, 6);
        Due.is("four alike", x.fair(), 30);
        x = new EightOars();
        Due.race(x, 1, 0, 0, 0, 0, 9999);
        Due.is("alone", x.fair(), 1);
        x = new EightOars();
        Due.race(x, 0, 0, 0, 9999, 0, 0);
        Due.is("who alone rowed", x.fair(), 8);
    }

    /** "a LANE of none is not" */
    private static void aLaneOfNone() {
        EightOars x = new EightOars();
        Due.is("no RACE", x.fair(), 0);
        Due.race(x, 0, 0, 0, 0, 0, 0);
        Due.is("nobody rowed", x.fair(), 0);
        Due.race(x, 0, 3, 0, 0, 0, 0);
        Due.is("one did", x.fair(), 2);
    }

    /** "of RACES in which they were rowed": those in which they weren't don't count */
    private static void allOfTwenty() {
        EightOars x = new EightOars();
        for (int i = 0; i < 20; i++) {
            Due.race(x, i < 10 ? 1 : 9, i == 19 ? 2 : 0, i == 0 ? 0 : 6, 0, 0, 5);
        }
        Due.is("ten of 20, one of one; none of 19, nine of 20", x.fair(), 1 + 2);
    }
}
