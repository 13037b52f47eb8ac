/** Promises 13 to 19: row, left, rown, more, change, order, spurts. */
public final class RowsTest {
    public static void main(String[] args) {
        oneStroke();
        twoStrokes();
        waterAndWind();
        slips();
        bounds();
        stores();
        rownStores();
        rowRefusals();
        changes();
        changeOfNobody();
        orders();
        spurtsAndStarts();
        Due.end();
    }

    private static void told(EightOars x, int plan, String name, long... want) {
        for (int what = 0; what < want.length; what++) {
            Due.is(name + ", what " + what, x.row(plan, what), want[what]);
        }
    }

    private static void oneStroke() {
        EightOars x = new EightOars();
        x.rower(80, 60, 500, 10);
        x.rower(70, 41, 500, 10);
        x.sit(0, 0);
        x.sit(5, 1);
        x.rig(5, 1, 3);
        Due.plan(x, "r1");
        // DRIVES: 64 * 4 / 4 and 44 * 3 / 4; 97 * 100 / 350
        told(x, 0, "one STROKE", 27, 27, 64 - 33 * 6, 0, 0);
        x.rig(5, 0, 0);
        told(x, 0, "on one SIDE", 27, 27, 64 + 33 * 6, 0, 0);
        Due.plan(x, "s1");
        // PULLS: 42, 29; DRIVES: 42, 21
        told(x, 1, "one START", 18, 18, 42 + 21 * 6, 0, 0);
        Due.plan(x, "w1");
        // PULLS: 29, 41; DRIVES: 29, 30
        told(x, 2, "one ROUGH", 16, 16, 29 + 30 * 6, 0, 0);
        Due.is("cost of a ROUGH", x.left(2, 1), 500 - 46 + 10);
    }

    private static void twoStrokes() {
        EightOars x = new EightOars();
        x.rower(100, 96, 9999, 0);
        x.sit(0, 0);
        Due.plan(x, "r2");
        Due.plan(x, "r1x1");
        Due.plan(x, "r1l1");
        Due.plan(x, "r1w1");
        // 100 * 100 / 300 = 33, then 33 + 33 less 66 * 20 / 100
        told(x, 0, "two STROKES", 33 + 53, 53, 200, 13, 0);
        // 125 * 100 / 300 = 41: 33 + 41 - 13 = 61, less 33 / 100
        told(x, 1, "a SPURT", 33 + 61, 61, 225, 13, 0);
        // 50 * 100 / 300 = 16: 33 + 16 - 13 = 36, less 99 / 100
        told(x, 2, "a LATE one", 33 + 36, 36, 150, 13, 0);
        // 47 * 100 / 300 = 15: 33 + 15 - 13 = 35, less 165 / 100
        told(x, 3, "a ROUGH one", 33 + 34, 34, 147, 13, 1);
    }

    private static void waterAndWind() {
        EightOars x = new EightOars();
        x.rower(100, 96, 9999, 0);
        x.sit(0, 0);
        Due.plan(x, "r1");
        Due.plan(x, "r2");
        x.water(1, 7);
        told(x, 0, "WIND", 26, 26, 100, 7, 0);
        x.water(1, 40);
        told(x, 0, "no more than there is", 0, 0, 100, 33, 0);
        x.water(1, -10);
        told(x, 0, "WATER is not below 0", 33, 33, 100, 0, 0);
        told(x, 1, "WIND takes of WATER", 33 + 63, 63, 200, 3, 0);
        x.water(0, 999);
        x.water(1, 0);
        told(x, 1, "a great DRAG", 33, 0, 200, 66, 0);
        x.force(Due.text(x, "give 100;drag store + 10 * stroke;"));
        x.water(0, 1);
        // 9999 / 100 = 99 is what WATER takes: the store as it was ahead of the STROKE
        told(x, 0, "drag by the full STORE", 0, 0, 100, 33, 0);
        x.force(Due.text(x, "give 100;drag (9899 - store) * 9 + 99 * stroke;"));
        // first -900, then 0 and 99: nothing is taken of 1 hundredth less than 1
        told(x, 1, "drag by STORE and stroke", 33 + 66, 66, 200, 0, 0);
        x.water(0, 100);
        told(x, 1, "ahead of the STROKE", 33, 0, 200, 66, 0);
    }

    private static void slips() {
        EightOars x = new EightOars();
        x.rower(40, 99, 9999, 99);
        x.sit(1, 0);
        x.force(Due.text(x, "give 999 * (stroke = 0);drag 300 * (stroke = 1);"));
        x.water(0, 100);
        Due.plan(x, "r1l1");
        Due.plan(x, "r1w1x1");
        x.rig(1, 1, 9);
        // 999 * 9 / 4 = 2247: 224700 / 240 = 936; then 936 - 300 - 936 * 3 / 100
        told(x, 0, "LATE slips", 936 + 608, 608, -2 * 2247, 300, 28);
        // 936 - 300 - 46 = 590, then 590 - 5
        told(x, 1, "ROUGH and SPURT slip", 936 + 590 + 585, 585, -2 * 2247, 300, 51);
        x.water(0, 310);
        // 936 - 930 = 6: no more than there is
        told(x, 0, "slips no more than there is", 936, 0, -2 * 2247, 930, 6);
    }

    private static void bounds() {
        EightOars x = new EightOars();
        for (int i = 0; i < 8; i++) {
            x.rower(40, 99, 9999, 99);
            x.sit(i, i);
            x.rig(i, 1, 9);
            x.rig(i, 0, 1);
        }
        x.force(Due.text(x, "give 9999;drag 0;"));
        Due.plan(x, "r99r99r2");
        Due.plan(x, "r30");
        // 8 * 2247 * 100 / 520 = 3456 a STROKE at first, half of that without STORES
        long speed = 0;
        long way = 0;
        long turn = 0;
        int store = 9999;
        for (int i = 0; i < 200; i++) {
            int g = store == 0 ? 499 : 999;
            int drive = g * 9 / 4;
            store = Math.max(0, store - g) + 99;
            speed = Math.min(99999, speed + 8 * drive * 100 / 520);
            way += speed;
            turn -= drive * 36;
        }
        told(x, 0, "200 STROKES", way, speed, turn, 0, 0);
        Due.is("it came to the bound", speed, 99999);
        Due.is("full again", x.left(1, 0), 99);
        x.water(0, 999);
        x.force(Due.text(x, "give 9999;drag 9999 * 9999;"));
        told(x, 1, "a drag beyond its bound", 0, 0, -2247 * 36 * 30, 30 * 3456, 0);
    }

    private static void stores() {
        EightOars x = new EightOars();
        x.rower(80, 60, 100, 10);
        x.rower(80, 60, 9950, 99);
        x.rower(80, 60, 5, 50);
        x.sit(0, 0);
        x.sit(1, 1);
        Due.plan(x, "r1");
        Due.plan(x, "r2");
        Due.plan(x, "e3");
        Due.is("less by COST, more by FILLS", x.left(0, 0), 100 - 64 + 10);
        Due.is("0 at least ahead of FILLS", x.left(1, 0), 10);
        Due.is("filled", x.left(0, 1), 9950 - 64 + 99);
        Due.is("9999 at most", x.left(1, 1), 9999);
        Due.is("EASY ones", x.left(2, 0), 100 - 3 * 23 + 30);
        Due.is("who does not sit", x.left(1, 2), 5);
        Due.is("nothing is changed", x.rowerTold(0, 2), 100);
        Due.is("no PLAN", x.left(3, 0), -5);
        Due.is("PLAN -1", x.left(-1, 0), -5);
        Due.is("no ROWER", x.left(0, 3), -5);
        Due.is("ROWER -1", x.left(0, -1), -5);
    }

    private static void rownStores() {
        EightOars x = new EightOars();
        x.rower(80, 60, 150, 0);
        x.rower(80, 60, 100, 10);
        x.sit(2, 0);
        Due.plan(x, "s2r1");
        long way = x.row(0, 0);
        int left = x.left(0, 0);
        Due.is("WAY", x.rown(0), way);
        Due.is("STORE", x.rowerTold(0, 2), left);
        Due.is("who does not sit", x.rowerTold(1, 2), 100);
        Due.is("the next is shorter", x.rown(0) < way ? 1 : 0, 1);
        Due.is("no PLAN", x.rown(1), EightOars.NO);
        Due.is("PLAN -1", x.rown(-1), EightOars.NO);
    }

    private static void rowRefusals() {
        EightOars x = new EightOars();
        Due.is("no PLAN", x.row(0, 0), EightOars.NO);
        Due.plan(x, "r9");
        told(x, 0, "nobody rows", 0, 0, 0, 0, 0);
        Due.is("what 5", x.row(0, 5), EightOars.NO);
        Due.is("what -1", x.row(0, -1), EightOars.NO);
        Due.is("PLAN 1", x.row(1, 0), EightOars.NO);
        Due.is("PLAN -1", x.row(-1, 0), EightOars.NO);
    }

    private static void changes() {
        EightOars x = new EightOars();
        x.rower(80, 10, 9999, 0);
        x.rower(80, 90, 9999, 0);
        x.sit(0, 0);
        x.sit(3, 1);
        x.rig(5, 1, 9);
        x.force(Due.text(x, "give force;drag 0;"));
        Due.plan(x, "r1");
        Due.plan(x, "l1");
        // 100 * 100 / 360 = 27; the strong one at GEAR 9: (10 + 202) * 100 / 360 = 58
        Due.is("MORE", x.more(0, 35), 58 - 27);
        Due.is("the other way about", x.more(0, 53), 58 - 27);
        Due.is("like GEARS", x.more(0, 3), 0);
        Due.is("the weak one at GEAR 9", x.more(0, 5), 112 * 100 / 360 - 27);
        Due.is("BEST CHANGE", x.change(0, 0), 35);
        Due.is("its MORE", x.change(0, 1), 31);
        // SEAT 0 is late: 95 * 100 / 360 = 26, changed 55 * 100 / 360 = 15
        Due.is("less", x.more(1, 3), 15 - 26);
        Due.is("nothing is changed", x.rowerTold(1, 4), 3);
        int[] wrong = {0, 11, 77, 8, 9, 80, 18, 81, 100, -1, -12, Integer.MIN_VALUE,
            Integer.MAX_VALUE};
        for (int seats : wrong) {
            Due.is("no SEATS " + seats, x.more(0, seats), EightOars.NO);
        }
        Due.is("no PLAN", x.more(2, 1), EightOars.NO);
        Due.is("no PLAN", x.change(2, 0), EightOars.NO);
        Due.is("PLAN -1", x.change(-1, 0), EightOars.NO);
        Due.is("what 2", x.change(0, 2), EightOars.NO);
        Due.is("what -1", x.change(0, -1), EightOars.NO);
    }

    private static void changeOfNobody() {
        EightOars x = new EightOars();
        Due.plan(x, "r5");
        Due.is("the first of like ones", x.change(0, 0), 1);
        Due.is("no MORE", x.change(0, 1), 0);
        x.rower(80, 50, 9999, 0);
        x.sit(4, 0);
        for (int seat = 0; seat < 8; seat++) {
            x.rig(seat, 1, seat == 4 ? 9 : 1);
        }
        Due.is("two empty SEATS are better than a loss", x.change(0, 0), 1);
        x.rig(2, 1, 9);
        x.rig(4, 1, 8);
        Due.is("an empty SEAT is better", x.change(0, 0), 24);
        x.rig(6, 1, 9);
        Due.is("the first of like ones", x.change(0, 0), 24);
        for (int seat = 0; seat < 8; seat++) {
            x.sit(seat, x.rower(80, 50, 9999, 0));
            x.rig(seat, 1, seat == 0 ? 9 : 4);
        }
        x.force(Due.text(x, "give seat;drag 0;"));
        Due.is("all alike", x.change(0, 0), 1);
    }

    private static void orders() {
        EightOars x = new EightOars();
        Due.is("nobody: the least bits", x.order(0), 15);
        Due.is("nobody wags", x.order(1), 0);
        for (int i = 0; i < 8; i++) {
            x.rower(80, 60, 9999, 0);
            x.sit(i, i);
        }
        Due.is("as it is", x.order(2), 64 * 4);
        Due.is("the least of all", x.order(1), 0);
        // 1 to 8 in two fours of 18: 3, 4, 5, 6 are the least
        Due.is("the least bits that do it", x.order(0), 0b00111100);
        x.rig(0, 0, 1);
        x.rig(1, 0, 1);
        Due.is("the sign is left out", x.order(2), Math.abs(64 * (-4 - 2)));
        x.rig(7, 1, 9);
        int[] gears = {4, 4, 4, 4, 4, 4, 4, 9};
        Due.is("by GEARS", x.order(1), wagsLeast(gears));
        Due.is("SIDES as they are don't matter", x.order(0), bestSides(gears));
        Due.is("nothing is rigged", x.rig(0, 0, 1), 1);
        Due.is("what 3", x.order(3), EightOars.NO);
        Due.is("what -1", x.order(-1), EightOars.NO);
    }

    private static int wags(int[] gears, int sides) {
        int turn = 0;
        for (int seat = 0; seat < 8; seat++) {
            int moment = (60 + gears[seat]) * gears[seat] / 4 * (seat + 1);
            turn += (sides & 1 << seat) == 0 ? moment : -moment;
        }
        return Math.abs(turn);
    }

    private static int bestSides(int[] gears) {
        int best = 15;
        for (int sides = 255; sides >= 0; sides--) {
            if (Integer.bitCount(sides) == 4 && wags(gears, sides) <= wagsLeast(gears)) {
                best = sides;
            }
        }
        return best;
    }

    private static int wagsLeast(int[] gears) {
        int least = Integer.MAX_VALUE;
        for (int sides = 0; sides < 256; sides++) {
            if (Integer.bitCount(sides) == 4) {
                least = Math.min(least, wags(gears, sides));
            }
        }
        return least;
    }

    private static void spurtsAndStarts() {
        EightOars x = new EightOars();
        Due.is("nobody: the least j", x.spurts(60, 0, 0), 0);
        x.rower(80, 60, 150, 0);
        x.sit(4, 0);
        String[] plans = {"s1r4", "s1r3x1", "s1r2x2", "s1r1x3", "s1x4"};
        int best = -1;
        long way = -1;
        for (int j = 0; j < plans.length; j++) {
            long rowed = x.row(Due.plan(x, plans[j]), 0);
            if (rowed > way) {
                way = rowed;
                best = j;
            }
        }
        Due.is("by PLANS, j", x.spurts(5, 1, 0), best);
        Due.is("by PLANS, WAY", x.spurts(5, 1, 1), way);
        Due.is("STORES are as they were", x.rowerTold(0, 2), 150);
        x.sit(4, x.rower(80, 60, 9999, 0));
        x.force(Due.text(x, "give 999 * (stroke < 2);drag 0;"));
        // from the third STROKE on SPURTS only slip; two STARTS: 66600 / 280 each
        Due.is("no SPURT is worth it", x.spurts(4, 2, 0), 0);
        Due.is("no SPURT is worth it, WAY", x.spurts(4, 2, 1), 237 + 474 + 474 + 474);
        // 124800 / 280 = 445: 445, 445 + 445 - 4, less 8, less 8
        Due.is("all are worth it", x.spurts(4, 0, 0), 4);
        Due.is("all are worth it, WAY", x.spurts(4, 0, 1), 445 + 886 + 878 + 870);
        Due.is("STARTS alone", x.spurts(3, 3, 0), 0);
        Due.is("STARTS alone, WAY", x.spurts(3, 3, 1), 237 + 474 + 474);
        Due.is("one STROKE", x.spurts(1, 0, 0), 1);
        Due.is("one STROKE, WAY", x.spurts(1, 0, 1), 445);
        int[][] wrong = {{0, 0, 0}, {61, 0, 0}, {-1, 0, 0}, {5, -1, 0}, {5, 6, 0}, {5, 0, -1},
            {5, 0, 2}, {Integer.MAX_VALUE, 0, 0}};
        for (int[] told : wrong) {
            Due.is("no SPURTS", x.spurts(told[0], told[1], told[2]), EightOars.NO);
        }
    }
}
