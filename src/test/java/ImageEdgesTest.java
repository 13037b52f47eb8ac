/**
 * The edges of AN IMAGE and of the counts: promises 26 to 28. Each test stands for the document's
 * sentence above it.
 */
public final class ImageEdgesTest {
    public static void main(String[] args) {
        thereIsNone();
        howManySit();
        seats();
        sidesAndGears();
        stores();
        dragAndWind();
        theRule();
        comersStay();
        comersAndSeats();
        sixteenStores();
        backTwice();
        aNewerOne();
        theRestStays();
        counts();
        countsAtMost();
        countsAsked();
        Due.end();
    }

    /** "STATE: there is none." */
    private static void thereIsNone() {
        EightOars x = Due.withRowers(3);
        x.sit(2, 1);
        x.water(0, 99);
        Due.is("none", x.back(), -3);
        Due.is("who sits stays", x.rowerTold(1, 4), 2);
        Due.is("DRAG stays", x.water(0, 99), 99);
        Due.is("now there is one", x.image(), 1);
        Due.is("back", x.back(), 1);
    }

    /** "AN IMAGE is kept: how many sit."; "All is as in THE IMAGE: how many sit." */
    private static void howManySit() {
        EightOars x = Due.withRowers(8);
        for (int n = 0; n <= 8; n++) {
            Due.is("kept with " + n, x.image(), n);
            for (int seat = 0; seat < 8; seat++) {
                x.sit(seat, seat >= n ? seat : -1);
            }
            Due.is("others sit", x.count(1), 8 - n);
            Due.is("back to " + n, x.back(), n);
            Due.is("they sit", x.count(1), n);
            Due.is("their WEIGHTS", x.count(8), 100 * n);
            if (n < 8) {
                x.sit(n, n);
            }
        }
    }

    /** "AN IMAGE keeps SEATS" */
    private static void seats() {
        EightOars x = Due.withRowers(9);
        int[] who = {-1, 3, 0, -1, 7, 5, -1, 8};
        for (int seat = 0; seat < 8; seat++) {
            x.sit(seat, who[seat]);
        }
        x.image();
        for (int seat = 0; seat < 8; seat++) {
            x.sit(seat, 7 - seat);
        }
        Due.is("five sit", x.back(), 5);
        for (int rower = 0; rower < 9; rower++) {
            int due = -1;
            for (int seat = 0; seat < 8; seat++) {
                due = who[seat] == rower ? seat : due;
            }
            Due.is("SEAT of " + rower, x.rowerTold(rower, 4), due);
        }
        for (int seat = 0; seat < 8; seat++) {
            Due.is("who sits in " + seat, x.sit(seat, -1), who[seat]);
        }
    }

    /** "SIDES, GEARS" */
    private static void sidesAndGears() {
        EightOars x = new EightOars();
        for (int seat = 0; seat < 8; seat++) {
            x.rig(seat, 0, seat / 4);
            x.rig(seat, 1, seat + 1);
        }
        x.image();
        for (int seat = 0; seat < 8; seat++) {
            x.rig(seat, 0, 1 - seat / 4);
            x.rig(seat, 1, 9);
        }
        x.back();
        for (int seat = 0; seat < 8; seat++) {
            Due.is("SIDE of " + seat, x.rig(seat, 0, 0), seat / 4);
            Due.is("GEAR of " + seat, x.rig(seat, 1, 5), seat + 1);
        }
        x.back();
        for (int seat = 0; seat < 8; seat++) {
            Due.is("SIDE of " + seat, x.rig(seat, 0, 0), seat / 4);
            Due.is("GEAR of " + seat, x.rig(seat, 1, 5), seat + 1);
        }
    }

    /** "STORES of all ROWERS" */
    private static void stores() {
        EightOars x = Due.withRowers(3);
        x.sit(0, 0);
        x.sit(1, 1);
        Due.rule(x, "give 100;drag 0;");
        Due.plan(x, "r2");
        x.image();
        x.rown(0);
        x.sit(2, 2);
        x.rown(0);
        Due.is("STORE of 0", x.rowerTold(0, 2), 9999 - 400);
        Due.is("STORE of 2", x.rowerTold(2, 2), 9999 - 200);
        x.back();
        for (int rower = 0; rower < 3; rower++) {
            Due.is("STORE of " + rower, x.rowerTold(rower, 2), 9999);
        }
    }

    /** "DRAG, WIND" */
    private static void dragAndWind() {
        EightOars x = new EightOars();
        x.image();
        x.water(0, 999);
        x.water(1, -99);
        x.back();
        Due.is("DRAG", x.water(0, 1), 20);
        Due.is("WIND", x.water(1, 99), 0);
        x.image();
        x.water(0, 5);
        x.water(1, 5);
        x.back();
        Due.is("DRAG", x.water(0, 20), 1);
        Due.is("WIND", x.water(1, 0), 99);
    }

    /** "THE RULE" */
    private static void theRule() {
        EightOars x = new EightOars();
        x.image();
        Due.rule(x, "give 1;drag 1;");
        Due.is("TEXT 1", x.count(5), 1);
        x.back();
        Due.is("TEXT 0", x.count(5), 0);
        Due.is("TEXT 1 is there still", x.force(1), 0);
        x.image();
        x.force(0);
        x.back();
        Due.is("TEXT 1", x.count(5), 1);
    }

    /** "ROWERS that came since stay as they are" */
    private static void comersStay() {
        EightOars x = new EightOars();
        Due.is("nobody", x.image(), 0);
        x.rower(41, 42, 4300, 44);
        x.sit(0, 0);
        Due.rule(x, "give 300;drag 0;");
        Due.plan(x, "r1");
        x.rown(0);
        Due.is("back to nobody", x.back(), 0);
        Due.is("ROWERS", x.count(0), 1);
        int[] due = {41, 42, 4300 - 300 + 44, 44, -1};
        for (int what = 0; what < 5; what++) {
            Due.is("told " + what, x.rowerTold(0, what), due[what]);
        }
    }

    /** "SEATS are as then": who came since sits nowhere, who was there sits again */
    private static void comersAndSeats() {
        EightOars x = Due.withRowers(2);
        x.sit(0, 0);
        x.sit(7, 1);
        x.image();
        x.rower(60, 1, 1, 1);
        x.rower(60, 1, 1, 1);
        x.sit(0, 2);
        x.sit(3, 3);
        x.sit(4, 0);
        Due.is("four sit", x.count(1), 4);
        Due.is("two sat", x.back(), 2);
        int[] due = {0, 7, -1, -1};
        for (int rower = 0; rower < 4; rower++) {
            Due.is("SEAT of " + rower, x.rowerTold(rower, 4), due[rower]);
        }
    }

    /** "STORES of all ROWERS": of all sixteen, and of none of those that came since */
    private static void sixteenStores() {
        for (int then = 0; then <= 16; then += 4) {
            EightOars x = Due.withRowers(then);
            x.image();
            for (int i = then; i < 16; i++) {
                x.rower(100, 1, 9000 + i, 0);
            }
            Due.rule(x, "give 100;drag 0;");
            Due.plan(x, "r1");
            for (int half = 0; half < 2; half++) {
                for (int seat = 0; seat < 8; seat++) {
                    x.sit(seat, 8 * half + seat);
                }
                x.rown(0);
            }
            x.back();
            for (int i = 0; i < 16; i++) {
                int due = i < then ? 9999 : 9000 + i - 100;
                Due.is(then + " then, STORE of " + i, x.rowerTold(i, 2), due);
            }
        }
    }

    /** "All is as in THE IMAGE": as often as it is asked */
    private static void backTwice() {
        EightOars x = Due.withRowers(1);
        x.sit(5, 0);
        x.image();
        for (int i = 0; i < 3; i++) {
            x.sit(i, 0);
            x.rig(5, 1, 9);
            Due.is("back", x.back(), 1);
            Due.is("SEAT", x.rowerTold(0, 4), 5);
            Due.is("GEAR", x.rig(5, 1, 8), 4);
        }
    }

    /** "AN IMAGE is kept": the last one alone */
    private static void aNewerOne() {
        EightOars x = Due.withRowers(2);
        x.sit(5, 0);
        x.image();
        x.sit(6, 1);
        x.image();
        x.sit(6, -1);
        Due.is("the newer one", x.back(), 2);
        x.sit(5, -1);
        x.sit(6, -1);
        Due.is("nobody", x.image(), 0);
        x.sit(6, 0);
        Due.is("nobody again", x.back(), 0);
    }

    /** What AN IMAGE does not keep stays as it is: PLANS, TEXTS, THE TAPE, PIECES, RACES, SHEETS. */
    private static void theRestStays() {
        EightOars x = Due.withRowers(2);
        x.sheet(0, 0, 1);
        x.image();
        Due.plan(x, "r1");
        Due.text(x, "give 1;drag 1;");
        x.piece(0, 1, 5, 5);
        Due.race(x, 1, 2, 3, 4, 5, 6);
        x.sheet(0, 0, 2);
        Due.feed(x, "r2");
        x.back();
        int[] due = {2, 0, 1, 2, 2, 0, 1, 1, 0};
        for (int what = 0; what < 9; what++) {
            Due.is("count " + what, x.count(what), due[what]);
        }
        Due.is("SHEET 0", x.cell(0, 1, 5), 1);
        Due.is("THE TAPE", x.plan(), 1);
    }

    /** "How many: 0 ROWERS, .. 8 all WEIGHTS in the BOAT": each told apart, by ones */
    private static void counts() {
        EightOars x = new EightOars();
        int[] due = {0, 0, 0, 1, 0, 0, 0, 0, 0};
        counted(x, due);
        due[0] = 1;
        x.rower(40, 1, 1, 1);
        counted(x, due);
        due[0] = 2;
        x.rower(120, 1, 1, 1);
        counted(x, due);
        due[1] = 1;
        due[8] = 40;
        x.sit(3, 0);
        counted(x, due);
        due[1] = 2;
        due[8] = 160;
        x.sit(4, 1);
        counted(x, due);
        due[4] = 3;
        Due.feed(x, "r1s");
        counted(x, due);
        due[4] = 0;
        due[2] = 1;
        Due.plan(x, "1");
        counted(x, due);
        due[3] = 2;
        Due.text(x, "give 1;drag 1;");
        counted(x, due);
        due[5] = 1;
        x.force(1);
        counted(x, due);
        due[6] = 1;
        x.piece(0, 1, 1, 1);
        counted(x, due);
        due[7] = 1;
        Due.race(x, 1, 1, 1, 1, 1, 1);
        counted(x, due);
        due[1] = 1;
        due[8] = 120;
        x.sit(3, 1);
        counted(x, due);
        due[1] = 0;
        due[8] = 0;
        x.sit(3, -1);
        counted(x, due);
    }

    private static void counted(EightOars x, int[] due) {
        for (int what = 0; what < 9; what++) {
            Due.is("count " + what, x.count(what), due[what]);
        }
    }

    /** The same of a full object: 16, 8, 8, 6, 160, .., 30, 20, 960 of eight of 120. */
    private static void countsAtMost() {
        EightOars x = new EightOars();
        for (int i = 0; i < 16; i++) {
            x.rower(120, 1, 1, 1);
            x.sit(i % 8, i);
            if (i < 8) {
                Due.plan(x, "r1");
            }
        }
        for (int i = 1; i < 6; i++) {
            Due.text(x, "give 1;drag 1;");
        }
        x.force(5);
        for (int i = 0; i < 30; i++) {
            x.piece(0, 1, 1, 1);
        }
        for (int i = 0; i < 20; i++) {
            Due.race(x, 1, 1, 1, 1, 1, 1);
            x.feed(8, 0);
        }
        counted(x, new int[] {16, 8, 8, 6, 160, 5, 30, 20, 960});
    }

    /** "BAD." */
    private static void countsAsked() {
        EightOars x = new EightOars();
        Due.is("what -1", x.count(-1), -2);
        Due.is("what 9", x.count(9), -2);
        Due.is("what 8", x.count(8), 0);
    }
}
