/**
 * The edges of ROWERS, SEATS, DRAG, WIND, KINDS: promises 1 to 7. Each test stands for the
 * document's sentence above it. What a refusal leaves as it was stands in RefusalsTest.
 */
public final class BoatEdgesTest {
    private static final int PULL = 0, COST = 1, SLIPS = 2;

    public static void main(String[] args) {
        constants();
        newObject();
        sixteenRowers();
        weights();
        forces();
        stores();
        fills();
        rowersTold();
        eightSeats();
        nobodyAtFirst();
        seatOfARower();
        whoSat();
        sidesAtFirst();
        sides();
        gearsAtFirst();
        gears();
        drags();
        winds();
        kinds();
        given();
        pullOfAStroke();
        pullOfAStart();
        pullOfASpurt();
        pullOfALateOne();
        pullOfARoughOne();
        pullOfAnEasyOne();
        costOfAStroke();
        costOfAStart();
        costOfASpurt();
        costOfALateOne();
        costOfARoughOne();
        costOfAnEasyOne();
        slips();
        Due.end();
    }

    /** "NONE is -1; NO, where a long is answered, -4611686018427387904." */
    private static void constants() {
        Due.is("NONE", EightOars.NONE, -1);
        Due.is("BAD", EightOars.BAD, -2);
        Due.is("STATE", EightOars.STATE, -3);
        Due.is("FULL", EightOars.FULL, -4);
        Due.is("NO", EightOars.NO, -(1L << 62));
    }

    /** "Nobody; DRAG 20." */
    private static void newObject() {
        EightOars x = new EightOars();
        Due.is("ROWERS", x.count(0), 0);
        Due.is("who sit", x.count(1), 0);
        Due.is("WEIGHTS in the BOAT", x.count(8), 0);
        Due.is("DRAG", x.water(0, 20), 20);
        Due.is("no ROWER 0", x.rowerTold(0, 0), -5);
    }

    /** "ROWERS (16 at most, numbered from 0)" */
    private static void sixteenRowers() {
        EightOars x = new EightOars();
        for (int i = 0; i < 16; i++) {
            Due.is("none such yet: " + i, x.rowerTold(i, 4), -5);
            Due.is("ROWER " + i, x.rower(60, 50, i, 0), i);
            Due.is("ROWERS", x.count(0), i + 1);
        }
        Due.is("the 17th", x.rower(60, 50, 16, 0), -4);
        Due.is("16 ROWERS", x.count(0), 16);
        for (int i = 0; i < 16; i++) {
            Due.is("STORE of " + i, x.rowerTold(i, 2), i);
        }
        Due.is("no ROWER 16", x.rowerTold(16, 2), -5);
    }

    /** "WEIGHT (40 .. 120)" */
    private static void weights() {
        EightOars x = new EightOars();
        Due.is("39", x.rower(39, 50, 50, 50), -2);
        Due.is("40", x.rower(40, 50, 50, 50), 0);
        Due.is("120", x.rower(120, 50, 50, 50), 1);
        Due.is("121", x.rower(121, 50, 50, 50), -2);
        Due.is("told 40", x.rowerTold(0, 0), 40);
        Due.is("told 120", x.rowerTold(1, 0), 120);
    }

    /** "FORCE (1 .. 99)" */
    private static void forces() {
        EightOars x = new EightOars();
        Due.is("0", x.rower(60, 0, 50, 50), -2);
        Due.is("1", x.rower(60, 1, 50, 50), 0);
        Due.is("99", x.rower(60, 99, 50, 50), 1);
        Due.is("100", x.rower(60, 100, 50, 50), -2);
        Due.is("told 1", x.rowerTold(0, 1), 1);
        Due.is("told 99", x.rowerTold(1, 1), 99);
    }

    /** "STORE (0 .. 9999: how full as it is told)" */
    private static void stores() {
        EightOars x = new EightOars();
        Due.is("-1", x.rower(60, 50, -1, 50), -2);
        Due.is("0", x.rower(60, 50, 0, 50), 0);
        Due.is("9999", x.rower(60, 50, 9999, 50), 1);
        Due.is("10000", x.rower(60, 50, 10000, 50), -2);
        Due.is("told 0", x.rowerTold(0, 2), 0);
        Due.is("told 9999", x.rowerTold(1, 2), 9999);
    }

    /** "FILLS (0 .. 99 each STROKE)" */
    private static void fills() {
        EightOars x = new EightOars();
        Due.is("-1", x.rower(60, 50, 50, -1), -2);
        Due.is("0", x.rower(60, 50, 50, 0), 0);
        Due.is("99", x.rower(60, 50, 50, 99), 1);
        Due.is("100", x.rower(60, 50, 50, 100), -2);
        Due.is("told 0", x.rowerTold(0, 3), 0);
        Due.is("told 99", x.rowerTold(1, 3), 99);
    }

    /** "Of a ROWER: 0 WEIGHT, 1 FORCE, 2 STORE, 3 FILLS, 4 its SEAT (NONE). -5: none such." */
    private static void rowersTold() {
        EightOars x = new EightOars();
        x.rower(41, 2, 3, 4);
        Due.is("what -1", x.rowerTold(0, -1), -5);
        Due.is("WEIGHT", x.rowerTold(0, 0), 41);
        Due.is("FORCE", x.rowerTold(0, 1), 2);
        Due.is("STORE", x.rowerTold(0, 2), 3);
        Due.is("FILLS", x.rowerTold(0, 3), 4);
        Due.is("no SEAT", x.rowerTold(0, 4), -1);
        Due.is("what 5", x.rowerTold(0, 5), -5);
        Due.is("ROWER -1", x.rowerTold(-1, 4), -5);
        Due.is("ROWER 1", x.rowerTold(1, 4), -5);
    }

    /** "SEATS 0 .. 7 of the BOAT" */
    private static void eightSeats() {
        EightOars x = Due.withRowers(1);
        Due.is("sit in -1", x.sit(-1, 0), -5);
        Due.is("sit in 8", x.sit(8, 0), -5);
        Due.is("rig -1", x.rig(-1, 1, 5), -2);
        Due.is("rig 8", x.rig(8, 1, 5), -2);
        for (int seat = 0; seat < 8; seat++) {
            Due.is("sit in " + seat, x.sit(seat, 0), -1);
            Due.is("it sits in " + seat, x.rowerTold(0, 4), seat);
            Due.is("rig " + seat, x.rig(seat, 1, 5), 4);
        }
    }

    /** "a ROWER or nobody (as all are at first)" */
    private static void nobodyAtFirst() {
        EightOars x = Due.withRowers(8);
        for (int seat = 0; seat < 8; seat++) {
            Due.is("nobody in " + seat, x.sit(seat, -1), -1);
            Due.is("ROWER " + seat + " sits nowhere", x.rowerTold(seat, 4), -1);
        }
        for (int seat = 0; seat < 8; seat++) {
            Due.is("who sit", x.count(1), seat);
            Due.is("nobody sat in " + seat, x.sit(seat, seat), -1);
        }
        Due.is("all sit", x.count(1), 8);
        Due.is("WEIGHTS of all", x.count(8), 800);
    }

    /** "A ROWER (NONE: nobody) sits in a SEAT (if it sat in another one, nobody does there)" */
    private static void seatOfARower() {
        EightOars x = Due.withRowers(2);
        x.sit(0, 0);
        x.sit(7, 0);
        Due.is("nobody in 0", x.sit(0, -1), -1);
        Due.is("it is in 7", x.rowerTold(0, 4), 7);
        Due.is("one sits", x.count(1), 1);
        x.sit(7, 0);
        Due.is("in the same one", x.rowerTold(0, 4), 7);
        Due.is("one sits still", x.count(1), 1);
        x.sit(0, 1);
        x.sit(7, 1);
        Due.is("0 gave its place up", x.rowerTold(0, 4), -1);
        Due.is("1 has it", x.rowerTold(1, 4), 7);
        Due.is("one sits again", x.count(1), 1);
        x.sit(0, -1);
        Due.is("nobody of a SEAT that is empty", x.count(1), 1);
        x.sit(7, -1);
        Due.is("nobody at all", x.count(1), 0);
    }

    /** "who did" */
    private static void whoSat() {
        EightOars x = Due.withRowers(16);
        Due.is("nobody", x.sit(4, 15), -1);
        Due.is("the same", x.sit(4, 15), 15);
        Due.is("another one", x.sit(4, 0), 15);
        Due.is("nobody in 5", x.sit(5, 0), -1);
        Due.is("nobody in 4 any more", x.sit(4, 7), -1);
        Due.is("leaves 5", x.sit(5, -1), 0);
        Due.is("nobody in 5", x.sit(5, -1), -1);
        Due.is("no ROWER -2", x.sit(5, -2), -5);
        Due.is("no ROWER 16", x.sit(5, 16), -5);
    }

    /** "a SIDE (0, 1; at first 0 of even SEATS, 1 of others)" */
    private static void sidesAtFirst() {
        EightOars x = new EightOars();
        int[] due = {0, 1, 0, 1, 0, 1, 0, 1};
        for (int seat = 0; seat < 8; seat++) {
            Due.is("SIDE of " + seat, x.rig(seat, 0, 0), due[seat]);
        }
    }

    /** "SIDE (what 0), GEAR (1) of a SEAT become v: what was. BAD." */
    private static void sides() {
        EightOars x = new EightOars();
        Due.is("SIDE -1", x.rig(7, 0, -1), -2);
        Due.is("SIDE 2", x.rig(7, 0, 2), -2);
        Due.is("SIDE 0", x.rig(7, 0, 0), 1);
        Due.is("SIDE 1", x.rig(7, 0, 1), 0);
        Due.is("what it was", x.rig(7, 0, 1), 1);
        Due.is("what -1", x.rig(7, -1, 1), -2);
        Due.is("what 2", x.rig(7, 2, 1), -2);
        Due.is("GEAR is another thing", x.rig(7, 1, 4), 4);
        Due.is("another SEAT", x.rig(6, 0, 0), 0);
    }

    /** "a GEAR (1 .. 9; 4 at first)" */
    private static void gearsAtFirst() {
        EightOars x = new EightOars();
        for (int seat = 0; seat < 8; seat++) {
            Due.is("GEAR of " + seat, x.rig(seat, 1, 1), 4);
        }
    }

    /** "a GEAR (1 .. 9; 4 at first)" */
    private static void gears() {
        EightOars x = new EightOars();
        Due.is("GEAR 0", x.rig(0, 1, 0), -2);
        Due.is("GEAR 10", x.rig(0, 1, 10), -2);
        Due.is("GEAR 1", x.rig(0, 1, 1), 4);
        Due.is("GEAR 9", x.rig(0, 1, 9), 1);
        Due.is("what it was", x.rig(0, 1, 9), 9);
        Due.is("another SEAT", x.rig(1, 1, 9), 4);
    }

    /** "DRAG (1 .. 999; 20 at first)" */
    private static void drags() {
        EightOars x = new EightOars();
        Due.is("0", x.water(0, 0), -1000);
        Due.is("1000", x.water(0, 1000), -1000);
        Due.is("1", x.water(0, 1), 20);
        Due.is("999", x.water(0, 999), 1);
        Due.is("what it was", x.water(0, 20), 999);
    }

    /** "WIND (-99 .. 99; 0 at first)" */
    private static void winds() {
        EightOars x = new EightOars();
        Due.is("-100", x.water(1, -100), -1000);
        Due.is("100", x.water(1, 100), -1000);
        Due.is("-99", x.water(1, -99), 0);
        Due.is("99", x.water(1, 99), -99);
        Due.is("what it was", x.water(1, 0), 99);
        Due.is("what -1", x.water(-1, 1), -1000);
        Due.is("what 2", x.water(2, 1), -1000);
    }

    /** "STROKES have a KIND: 0 STROKE .. 5 EASY"; "0 PULL, 1 COST, 2 SLIPS. BAD." */
    private static void kinds() {
        EightOars x = new EightOars();
        int[] pulls = {40, 26, 50, 40, 37, 13};
        for (int what = 0; what < 3; what++) {
            Due.is("KIND -1", x.stroke(-1, 40, 1, what), -2);
            Due.is("KIND 6", x.stroke(6, 40, 1, what), -2);
        }
        for (int kind = 0; kind < 6; kind++) {
            Due.is("KIND " + kind, x.stroke(kind, 40, 1, PULL), pulls[kind]);
            Due.is("what -1", x.stroke(kind, 40, 1, -1), -2);
            Due.is("what 3", x.stroke(kind, 40, 1, 3), -2);
            Due.is("SEAT -1", x.stroke(kind, 40, -1, PULL), -2);
            Due.is("SEAT 8", x.stroke(kind, 40, 8, PULL), -2);
            Due.is("SEAT 7", x.stroke(kind, 40, 7, PULL), pulls[kind]);
        }
    }

    /** "of g (0 .. 999)" */
    private static void given() {
        EightOars x = new EightOars();
        for (int kind = 0; kind < 6; kind++) {
            for (int what = 0; what < 3; what++) {
                Due.is("g -1", x.stroke(kind, -1, 3, what), -2);
                Due.is("g 1000", x.stroke(kind, 1000, 3, what), -2);
                Due.holds("g 0", x.stroke(kind, 0, 3, what) >= 0);
                Due.holds("g 999", x.stroke(kind, 999, 3, what) >= 0);
            }
        }
    }

    private static void strokes(int kind, int seat, int what, int[][] due) {
        EightOars x = new EightOars();
        for (int[] pair : due) {
            Due.is("stroke(" + kind + ", " + pair[0] + ", " + seat + ", " + what + ")",
                    x.stroke(kind, pair[0], seat, what), pair[1]);
        }
    }

    /** "PULL .. of what it GIVES g: STROKE: g" */
    private static void pullOfAStroke() {
        strokes(0, 0, PULL, new int[][] {{0, 0}, {1, 1}, {998, 998}, {999, 999}});
        strokes(0, 7, PULL, new int[][] {{0, 0}, {1, 1}, {998, 998}, {999, 999}});
    }

    /** "START: twice a STROKE's by 3 (cut)" */
    private static void pullOfAStart() {
        int[][] due = {{0, 0}, {1, 0}, {2, 1}, {3, 2}, {4, 2}, {5, 3}, {998, 665}, {999, 666}};
        strokes(1, 0, PULL, due);
        strokes(1, 7, PULL, due);
    }

    /** "SPURT: a STROKE's and a fourth of it" */
    private static void pullOfASpurt() {
        int[][] due = {{0, 0}, {1, 1}, {3, 3}, {4, 5}, {7, 8}, {8, 10}, {996, 1245}, {999, 1248}};
        strokes(2, 0, PULL, due);
        strokes(2, 7, PULL, due);
    }

    /** "LATE: a STROKE's, but in SEAT 0 half of it" */
    private static void pullOfALateOne() {
        strokes(3, 0, PULL, new int[][] {{0, 0}, {1, 0}, {2, 1}, {3, 1}, {998, 499}, {999, 499}});
        strokes(3, 1, PULL, new int[][] {{0, 0}, {1, 1}, {2, 2}, {999, 999}});
        strokes(3, 7, PULL, new int[][] {{0, 0}, {1, 1}, {2, 2}, {999, 999}});
    }

    /** "ROUGH: a LATE one's less 3 (0 at least)" */
    private static void pullOfARoughOne() {
        strokes(4, 0, PULL, new int[][] {{0, 0}, {5, 0}, {6, 0}, {7, 0}, {8, 1}, {9, 1}, {999, 496}});
        strokes(4, 1, PULL, new int[][] {{0, 0}, {2, 0}, {3, 0}, {4, 1}, {5, 2}, {999, 996}});
    }

    /** "EASY: half of a START's" */
    private static void pullOfAnEasyOne() {
        int[][] due = {{0, 0}, {2, 0}, {3, 1}, {4, 1}, {5, 1}, {6, 2}, {7, 2}, {998, 332}, {999, 333}};
        strokes(5, 0, PULL, due);
        strokes(5, 7, PULL, due);
    }

    /** "COST (of its STORE): STROKE: g" */
    private static void costOfAStroke() {
        strokes(0, 0, COST, new int[][] {{0, 0}, {1, 1}, {999, 999}});
    }

    /** "START 5 more than a STROKE's" */
    private static void costOfAStart() {
        strokes(1, 0, COST, new int[][] {{0, 5}, {1, 6}, {999, 1004}});
    }

    /** "SPURT: twice a STROKE's" */
    private static void costOfASpurt() {
        strokes(2, 0, COST, new int[][] {{0, 0}, {1, 2}, {999, 1998}});
    }

    /** "LATE: as a STROKE's", in SEAT 0 too */
    private static void costOfALateOne() {
        strokes(3, 0, COST, new int[][] {{0, 0}, {1, 1}, {999, 999}});
        strokes(3, 7, COST, new int[][] {{0, 0}, {1, 1}, {999, 999}});
    }

    /** "ROUGH: 2 more than a LATE one's" */
    private static void costOfARoughOne() {
        strokes(4, 0, COST, new int[][] {{0, 2}, {1, 3}, {999, 1001}});
        strokes(4, 7, COST, new int[][] {{0, 2}, {1, 3}, {999, 1001}});
    }

    /** "EASY: a third of a START's" */
    private static void costOfAnEasyOne() {
        strokes(5, 0, COST, new int[][] {{0, 1}, {1, 2}, {2, 2}, {3, 2}, {4, 3}, {998, 334}, {999, 334}});
    }

    /** "SLIPS: STROKE 0; START as a STROKE; SPURT 1 more; LATE 3; ROUGH 2 more; EASY as a START" */
    private static void slips() {
        int[] due = {0, 0, 1, 3, 5, 0};
        for (int kind = 0; kind < 6; kind++) {
            strokes(kind, 0, SLIPS, new int[][] {{0, due[kind]}, {999, due[kind]}});
            strokes(kind, 7, SLIPS, new int[][] {{0, due[kind]}, {999, due[kind]}});
        }
    }
}
