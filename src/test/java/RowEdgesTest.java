import java.util.function.ToLongFunction;

/**
 * The edges of a ROW, ROWN, MORE, BEST CHANGE, ORDER, SPURTS: promises 13 to 19. Each test stands
 * for the document's sentence above it. Most are of one ROWER of WEIGHT 100, so that a DRIVE of
 * 300 makes the BOAT faster by 100.
 */
public final class RowEdgesTest {
    private static final int WAY = 0, SPEED = 1, TURN = 2, LOST = 3, SLIPPED = 4;

    public static void main(String[] args) {
        beginsAnew();
        strokeByStroke();
        whoSit();
        given();
        halfOfNothing();
        drives();
        emptied();
        filled();
        costOfWhatIsGiven();
        names();
        turns();
        dragAhead();
        dragOfNobody();
        dragAtLeast();
        dragAtMost();
        waterIsCut();
        waterAtLeast();
        speedIsCut();
        weights();
        lostNoMore();
        slips();
        slipsAreCut();
        slippedNoMore();
        speedAtMost();
        speedAtMostBehindAll();
        ways();
        shortestAndLongest();
        nothingChanges();
        rowsAsked();
        left();
        rown();
        moreOfAllSeats();
        moreIsAsIfChanged();
        bestChangeIsTheGreatest();
        bestChangeOfLosses();
        bestChangeIsTheLast();
        bestChangeOfLikeOnes();
        bestChangeWithNobody();
        changeAsked();
        orderOfFew();
        orderOfAll();
        orderWithEmptyStores();
        orderAsked();
        spurtsOfOne();
        spurtsOfSixty();
        spurtsByPlans();
        spurtsAlike();
        spurtsAsked();
        Due.end();
    }

    /** One ROWER of WEIGHT 100, FORCE 50 in a SEAT, with PLANS r1, r2, r3. */
    private static EightOars one(int seat, int store, int fills, String rule) {
        EightOars x = new EightOars();
        x.rower(100, 50, store, fills);
        x.sit(seat, 0);
        Due.rule(x, rule);
        Due.plan(x, "r1");
        Due.plan(x, "r2");
        Due.plan(x, "r3");
        return x;
    }

    private static void told(String name, EightOars x, int plan, int what, long due) {
        Due.is(name + ", what " + what + " by PLAN " + plan, x.row(plan, what), due);
    }

    /** "A ROW by a PLAN (from STORES as they are; speed, way, turn 0)" */
    private static void beginsAnew() {
        EightOars x = one(1, 9999, 0, "give 300;drag 0;");
        for (int i = 0; i < 3; i++) {
            told("anew", x, 1, WAY, 300);
            told("anew", x, 1, SPEED, 200);
            told("anew", x, 1, TURN, -1200);
            Due.is("the same WAY", x.rown(1), 300);
        }
        Due.is("but STORES are less", x.rowerTold(0, 2), 9999 - 6 * 300);
    }

    /** "STROKE by STROKE": one of each KIND, each from what the one ahead left; "together" */
    private static void strokeByStroke() {
        EightOars x = new EightOars();
        x.rower(100, 50, 500, 10);
        x.sit(0, 0);
        x.water(1, 2);
        Due.rule(x, "give 90;drag speed;");
        String plan = "";
        // PULLS: 60, 90, 112, 45, 42, 30; WATER: 2, 5, 10, 16, 15, 14; COSTS: 95, 90, 180, 90, 92, 31
        long[][] due = {{18, 18, 60, 2, 0, 415}, {61, 43, 150, 7, 0, 335}, {131, 70, 262, 17, 0, 165},
            {198, 67, 307, 33, 2, 85}, {261, 63, 349, 48, 5, 10}, {320, 59, 379, 62, 5, 10}};
        for (int i = 0; i < due.length; i++) {
            plan += "srxlwe".charAt(i) + "1";
            Due.is(plan, Due.plan(x, plan), i);
            for (int what = 0; what < 5; what++) {
                told(plan, x, i, what, due[i][what]);
            }
            Due.is(plan + ", its STORE", x.left(i, 0), due[i][5]);
        }
    }

    /** "of all who sit, SEAT by SEAT": nobody, one, all eight */
    private static void whoSit() {
        EightOars x = Due.withRowers(9);
        Due.rule(x, "give 100;drag 0;");
        Due.plan(x, "r1");
        long[] ways = {0, 10000 / 300, 20000 / 400, 30000 / 500, 40000 / 600, 50000 / 700,
            60000 / 800, 70000 / 900, 80000 / 1000};
        for (int n = 0; n <= 8; n++) {
            told(n + " sit", x, 0, WAY, ways[n]);
            if (n < 8) {
                x.sit(7 - n, n);
            }
        }
        told("one each in SEATS of both SIDES", x, 0, TURN, 100 * (1 - 2 + 3 - 4 + 5 - 6 + 7 - 8));
    }

    /** "give: what it GIVES (0 .. 999, else the bound ..)" */
    private static void given() {
        String[] rules = {"0 - 1", "0 - 9999 * 9999", "4096 * 4096 * 128", "0", "1", "998", "999",
            "1000", "9999", "4096 * 4096 * 128 - 1"};
        int[] due = {0, 0, 0, 0, 1, 998, 999, 999, 999, 999};
        for (int i = 0; i < rules.length; i++) {
            EightOars x = one(0, 9999, 0, "give " + rules[i] + ";drag 0;");
            told(rules[i], x, 0, TURN, due[i]);
            Due.is("COST of " + rules[i], x.left(0, 0), 9999 - due[i]);
        }
    }

    /** "with nothing in its STORE half of that, cut" */
    private static void halfOfNothing() {
        int[][] due = {{0, 0}, {1, 0}, {2, 1}, {3, 1}, {998, 499}, {999, 499}, {1000, 499}};
        for (int[] pair : due) {
            String rule = "give " + pair[0] + ";drag 0;";
            told("STORE 0, " + rule, one(0, 0, 0, rule), 0, TURN, pair[1]);
            told("STORE 1, " + rule, one(0, 1, 0, rule), 0, TURN, Math.min(999, pair[0]));
        }
        told("below 0", one(0, 0, 0, "give 0 - 3;drag 0;"), 0, TURN, 0);
        told("empty by the first STROKE", one(0, 101, 0, "give 101;drag 0;"), 1, TURN, 101 + 50);
        told("1 is left of it", one(0, 102, 0, "give 101;drag 0;"), 1, TURN, 101 + 101);
        told("FILLS are enough", one(0, 0, 1, "give 101;drag 0;"), 2, TURN, 50 + 101 + 101);
    }

    /** "its DRIVE: PULL times GEAR by 4", cut for each ROWER */
    private static void drives() {
        int[][] due = {{1, 7, 1}, {1, 8, 2}, {3, 1, 0}, {3, 2, 1}, {4, 7, 7}, {5, 3, 3}, {5, 4, 5},
            {9, 1, 2}, {9, 3, 6}, {9, 4, 9}, {9, 999, 2247}, {1, 999, 249}, {1, 3, 0}};
        for (int[] t : due) {
            EightOars x = one(0, 9999, 0, "give " + t[1] + ";drag 0;");
            x.rig(0, 1, t[0]);
            told("GEAR " + t[0] + ", PULL " + t[1], x, 0, TURN, t[2]);
        }
        EightOars x = Due.withRowers(2);
        x.sit(0, 0);
        x.sit(2, 1);
        x.rig(0, 1, 1);
        x.rig(2, 1, 1);
        Due.rule(x, "give 7;drag 0;");
        Due.plan(x, "r1");
        told("each is cut", x, 0, TURN, 1 + 3);
    }

    /** "its STORE is less by COST (0 at least)" */
    private static void emptied() {
        int[][] due = {{99, 0}, {100, 0}, {101, 1}, {0, 0}, {9999, 9899}};
        for (int[] pair : due) {
            EightOars x = one(0, pair[0], 0, "give 100;drag 0;");
            Due.is("STORE " + pair[0], x.left(0, 0), pair[1]);
            x = one(0, pair[0], 7, "give 100;drag 0;");
            Due.is("then more by FILLS: " + pair[0], x.left(0, 0), pair[1] + 7);
        }
    }

    /** "then more by FILLS (9999 at most)" */
    private static void filled() {
        int[][] due = {{97, 9999}, {98, 9999}, {99, 9999}, {100, 9998}, {101, 9997}, {0, 9999}};
        for (int[] pair : due) {
            EightOars x = one(0, 9999, 99, "give " + pair[0] + ";drag 0;");
            Due.is("COST " + pair[0], x.left(0, 0), pair[1]);
        }
        Due.is("none is added of 0", one(0, 5, 0, "give 0;drag 0;").left(0, 0), 5);
        Due.is("99 are added", one(0, 0, 99, "give 0;drag 0;").left(0, 0), 99);
        Due.is("once each STROKE", one(0, 0, 99, "give 0;drag 0;").left(2, 0), 297);
    }

    /** "COST (of its STORE)" goes by what it GIVES, half of it with nothing in its STORE */
    private static void costOfWhatIsGiven() {
        EightOars x = one(0, 0, 60, "give 100;drag 0;");
        Due.is("the first: 50 of nothing", x.left(0, 0), 60);
        Due.is("the second: 100 of 60", x.left(1, 0), 60);
        x = one(0, 500, 0, "give 30;drag 0;");
        int[] costs = {30, 35, 60, 30, 32, 11};
        for (int kind = 0; kind < 5; kind++) {
            Due.plan(x, "rsxlwe".charAt(kind + 1) + "1");
            Due.is("COST of KIND " + (kind + 1), x.left(kind + 3, 0), 500 - costs[kind + 1]);
        }
    }

    /** "store: what it has then; seat; gear; speed: of the BOAT; stroke: how many .. ahead" */
    private static void names() {
        told("store", one(0, 100, 1, "give store;drag 0;"), 2, TURN, 100 + 1 + 1);
        told("seat", one(7, 9999, 0, "give seat;drag 0;"), 0, TURN, -8 * 7);
        told("seat 0", one(0, 9999, 0, "give seat;drag 0;"), 0, TURN, 0);
        EightOars x = one(0, 9999, 0, "give gear;drag 0;");
        x.rig(0, 1, 8);
        told("gear", x, 0, TURN, 16);
        told("force", one(0, 9999, 0, "give force;drag 0;"), 0, TURN, 50);
        told("speed", one(0, 9999, 0, "give 300 * (speed = 0) + 7 * (speed = 100);drag 0;"), 1, TURN, 307);
        told("stroke", one(0, 9999, 0, "give stroke;drag 0;"), 2, TURN, 0 + 1 + 2);
        x = one(0, 9999, 99, "give stroke = 199;drag 0;");
        Due.plan(x, "r99r99r2");
        told("199 STROKES ahead", x, 3, TURN, 1);
    }

    /** "TURN: more by DRIVE times (SEAT and 1) of SIDE 0, less by that of SIDE 1." */
    private static void turns() {
        for (int seat = 0; seat < 8; seat++) {
            EightOars x = one(seat, 9999, 0, "give 10;drag 0;");
            x.rig(seat, 0, 0);
            told("SIDE 0, SEAT " + seat, x, 0, TURN, 10 * (seat + 1));
            told("of two STROKES", x, 1, TURN, 20 * (seat + 1));
            x.rig(seat, 0, 1);
            told("SIDE 1, SEAT " + seat, x, 0, TURN, -10 * (seat + 1));
        }
    }

    /** "WATER: drag of THE RULE (by what was so ahead of the STROKE)" */
    private static void dragAhead() {
        EightOars x = one(0, 80, 0, "give 300;drag store;");
        x.water(0, 100);
        told("the full STORE", x, 0, LOST, 80);
        told("then nothing", x, 1, LOST, 80);
        x = one(0, 9999, 0, "give 300;drag speed;");
        x.water(0, 100);
        told("speed 0", x, 0, LOST, 0);
        told("speed 100", x, 1, LOST, 100);
        x = one(0, 9999, 0, "give 300;drag stroke;");
        x.water(0, 100);
        told("0 and 1 and 2 STROKES", x, 2, LOST, 3);
    }

    /** "of SEAT 0's ROWER (force and store 0, if nobody sits there)" */
    private static void dragOfNobody() {
        EightOars x = one(1, 90, 0, "give 300;drag force + store + 10 * gear + seat + 1;");
        x.water(0, 100);
        x.rig(0, 1, 3);
        x.rig(1, 1, 4);
        told("nobody in SEAT 0", x, 0, LOST, 31);
        x.sit(0, 0);
        x.rig(0, 1, 4);
        told("ROWER 0 in SEAT 0: no more than 100", x, 0, LOST, 100);
        Due.rule(x, "give 300;drag force + seat + 1;");
        told("its FORCE", x, 0, LOST, 51);
        Due.rule(x, "give 300;drag store + seat + 1;");
        told("its STORE", x, 0, LOST, 91);
    }

    /** "drag: .. (0 .. 99999, else the bound)": below it */
    private static void dragAtLeast() {
        String[] rules = {"1", "0", "0 - 1", "0 - 9999", "4096 * 4096 * 128"};
        int[] due = {6, 5, 5, 5, 5};
        for (int i = 0; i < rules.length; i++) {
            EightOars x = one(1, 9999, 0, "give 300;drag " + rules[i] + ";");
            x.water(0, 100);
            x.water(1, 5);
            told("drag " + rules[i], x, 0, LOST, due[i]);
        }
    }

    /** Eight of WEIGHT 40 at GEAR 9: 8 * 2247 * 100 / 520 = 3456 more each STROKE, if all give 999. */
    private static EightOars fast(String drag) {
        EightOars x = new EightOars();
        for (int seat = 0; seat < 8; seat++) {
            x.rower(40, 50, 9999, 99);
            x.sit(seat, seat);
            x.rig(seat, 1, 9);
        }
        x.water(0, 100);
        Due.rule(x, "give 999;drag (stroke = 30) * (" + drag + ");");
        Due.plan(x, "r30");
        Due.plan(x, "r31");
        return x;
    }

    /** "drag: .. (0 .. 99999, else the bound)": above it */
    private static void dragAtMost() {
        String[] rules = {"9999 * 10 + 8", "9999 * 10 + 9", "9999 * 10 + 10", "9999 * 9999",
            "4096 * 4096 * 128 - 1"};
        int[] due = {99998, 99999, 99999, 99999, 99999};
        for (int i = 0; i < rules.length; i++) {
            EightOars x = fast(rules[i]);
            told("drag " + rules[i], x, 1, LOST, due[i]);
            told("drag " + rules[i], x, 1, SPEED, 99999 + 3456 - due[i]);
            x.water(0, 999);
            told("times 999", x, 1, LOST, 99999 + 3456);
            told("times 999", x, 1, SPEED, 0);
        }
    }

    /** "times DRAG by 100 (cut)" */
    private static void waterIsCut() {
        int[][] due = {{1, 99, 0}, {1, 100, 1}, {1, 199, 1}, {1, 200, 2}, {99, 1, 0}, {100, 1, 1},
            {3, 50, 1}, {7, 999, 69}};
        for (int[] t : due) {
            EightOars x = one(1, 9999, 0, "give 300;drag " + t[0] + ";");
            x.water(0, t[1]);
            told("drag " + t[0] + ", DRAG " + t[1], x, 0, LOST, t[2]);
            x.water(1, 3);
            told("and WIND 3", x, 0, LOST, t[2] + 3);
        }
    }

    /** "and WIND (0 at least in all)" */
    private static void waterAtLeast() {
        int[][] due = {{5, -4, 1}, {5, -5, 0}, {5, -6, 0}, {5, -99, 0}, {0, -1, 0}, {0, 0, 0},
            {0, 1, 1}, {0, 99, 99}};
        for (int[] t : due) {
            EightOars x = one(1, 9999, 0, "give 300;drag " + t[0] + ";");
            x.water(0, 100);
            x.water(1, t[1]);
            told("WIND " + t[1], x, 0, LOST, t[2]);
            told("WIND " + t[1], x, 0, SPEED, 100 - t[2]);
        }
        EightOars x = one(1, 9999, 0, "give 300;drag 199;");
        x.water(0, 1);
        x.water(1, -1);
        told("cut ahead of WIND", x, 0, LOST, 0);
    }

    /** "Speed: more by all DRIVES together times 100 by (all WEIGHTS and 200)" */
    private static void speedIsCut() {
        int[][] due = {{0, 0}, {2, 0}, {3, 1}, {5, 1}, {6, 2}, {999, 333}};
        for (int[] pair : due) {
            told("DRIVE " + pair[0], one(1, 9999, 0, "give " + pair[0] + ";drag 0;"), 0, SPEED, pair[1]);
        }
        EightOars x = Due.withRowers(2);
        x.sit(0, 0);
        x.sit(1, 1);
        Due.rule(x, "give 2;drag 0;");
        Due.plan(x, "r1");
        told("2 and 2 by 400 together", x, 0, SPEED, 1);
    }

    /** "(all WEIGHTS and 200)": of who sit */
    private static void weights() {
        EightOars x = new EightOars();
        x.rower(40, 50, 9999, 0);
        x.rower(120, 50, 9999, 0);
        Due.rule(x, "give 960;drag 0;");
        Due.plan(x, "r1");
        x.sit(3, 0);
        told("40 and 200", x, 0, SPEED, 400);
        x.sit(3, 1);
        told("120 and 200", x, 0, SPEED, 300);
        x.sit(2, 0);
        told("both and 200", x, 0, SPEED, 192000 / 360);
    }

    /** "less by WATER, but no more than there is (that is LOST)" */
    private static void lostNoMore() {
        int[][] due = {{99, 99}, {100, 100}, {101, 100}, {9999, 100}};
        for (int[] pair : due) {
            EightOars x = one(1, 9999, 0, "give 300;drag " + pair[0] + ";");
            x.water(0, 100);
            told("WATER " + pair[0], x, 0, LOST, pair[1]);
            told("WATER " + pair[0], x, 0, SPEED, 100 - pair[1]);
            told("twice", x, 1, LOST, pair[0] == 99 ? 99 + 99 : 200);
        }
    }

    /** The second STROKE of a KIND, which gives nothing: ahead of it speed is g / 3. */
    private static EightOars slipping(int g, char kind, int water) {
        EightOars x = one(1, 9999, 0, "give " + g + " * (stroke = 0);drag " + water + " * (stroke = 1);");
        x.water(0, 100);
        Due.plan(x, "r1" + kind + "1");
        return x;
    }

    /** "less by SLIPS hundredths of what it was ahead of the STROKE" */
    private static void slips() {
        int[] due = {0, 0, 1, 3, 5, 0};
        for (int kind = 0; kind < 6; kind++) {
            EightOars x = slipping(300, "rsxlwe".charAt(kind), 0);
            told("KIND " + kind, x, 3, SLIPPED, due[kind]);
            told("KIND " + kind, x, 3, SPEED, 100 - due[kind]);
            EightOars y = one(1, 9999, 0, "give 300;drag 0;");
            Due.plan(y, "rsxlwe".charAt(kind) + "1");
            told("the first of KIND " + kind, y, 3, SLIPPED, 0);
        }
        EightOars x = slipping(300, 'l', 50);
        told("ahead of WATER", x, 3, SLIPPED, 3);
        told("both", x, 3, SPEED, 47);
        told("WATER first", x, 3, LOST, 50);
    }

    /** "SLIPS hundredths", cut */
    private static void slipsAreCut() {
        Object[][] due = {{'x', 297, 0}, {'x', 300, 1}, {'x', 597, 1}, {'x', 600, 2}, {'l', 99, 0},
            {'l', 102, 1}, {'l', 198, 1}, {'l', 201, 2}, {'w', 57, 0}, {'w', 60, 1}, {'w', 117, 1},
            {'w', 120, 2}};
        for (Object[] t : due) {
            EightOars x = slipping((Integer) t[1], (Character) t[0], 0);
            told("KIND " + t[0] + " at " + t[1], x, 3, SLIPPED, (Integer) t[2]);
        }
    }

    /** "but no more than there is (that is SLIPPED)" */
    private static void slippedNoMore() {
        int[][] due = {{96, 3, 1}, {97, 3, 0}, {98, 2, 0}, {99, 1, 0}, {100, 0, 0}, {101, 0, 0}};
        for (int[] t : due) {
            EightOars x = slipping(300, 'l', t[0]);
            told("WATER " + t[0], x, 3, SLIPPED, t[1]);
            told("WATER " + t[0], x, 3, SPEED, t[2]);
            told("WATER " + t[0], x, 3, LOST, Math.min(100, t[0]));
        }
    }

    /** "99999 at most" */
    private static void speedAtMost() {
        EightOars x = fast("0");
        Due.plan(x, "r28");
        Due.plan(x, "r29");
        told("28 STROKES", x, 2, SPEED, 28 * 3456);
        told("29 STROKES", x, 3, SPEED, 99999);
        told("30 STROKES", x, 0, SPEED, 99999);
        told("31 STROKES", x, 1, SPEED, 99999);
        long way = 3456L * 28 * 29 / 2;
        told("28 STROKES", x, 2, WAY, way);
        told("29 STROKES", x, 3, WAY, way + 99999);
        told("31 STROKES", x, 1, WAY, way + 3 * 99999);
        told("what is above is neither", x, 1, LOST, 0);
        told("what is above is neither", x, 1, SLIPPED, 0);
    }

    /** "99999 at most": behind WATER and SLIPS, as it stands there */
    private static void speedAtMostBehindAll() {
        int[][] due = {{3455, 99999}, {3456, 99999}, {3457, 99998}};
        for (int[] pair : due) {
            EightOars x = fast("" + pair[0]);
            told("WATER " + pair[0], x, 1, SPEED, pair[1]);
            told("WATER " + pair[0], x, 1, LOST, pair[0]);
        }
        EightOars x = fast("0");
        Due.plan(x, "r30l1");
        // LATE: (1122 + 7 * 2247) * 100 / 520 = 3240, less 3 hundredths of 99999
        told("behind SLIPS", x, 2, SPEED, 99999);
        told("behind SLIPS", x, 2, SLIPPED, 2999);
        x = fast("300");
        Due.plan(x, "r30l1");
        told("both", x, 2, SPEED, 99999 + 3240 - 300 - 2999);
    }

    /** "WAY: more by speed." */
    private static void ways() {
        EightOars x = one(1, 9999, 0, "give 300;drag 0;");
        told("100", x, 0, WAY, 100);
        told("100 and 200", x, 1, WAY, 300);
        told("100 and 200 and 300", x, 2, WAY, 600);
        told("of nobody", new EightOars(), 0, WAY, EightOars.NO);
    }

    /** "1 at least"; "All together 200 STROKES at most": the shortest ROW and the longest */
    private static void shortestAndLongest() {
        EightOars x = one(0, 9999, 99, "give 3;drag 0;");
        Due.plan(x, "r99r99r2");
        told("one", x, 0, WAY, 1);
        told("200", x, 3, WAY, 200 * 201 / 2);
        told("200", x, 3, SPEED, 200);
        told("200", x, 3, TURN, 600);
    }

    private static void asked(String name, ToLongFunction<EightOars> call) {
        EightOars x = Whole.busy();
        long first = call.applyAsLong(x);
        Due.is(name + " again", call.applyAsLong(x), first);
        Due.holds(name + " changes nothing", Whole.of(x).equals(Whole.of(Whole.busy())));
    }

    /** "Nothing changes by it but what is asked." */
    private static void nothingChanges() {
        for (int plan = 0; plan < 3; plan++) {
            int one = plan;
            for (int what = 0; what < 5; what++) {
                int told = what;
                asked("row " + what, x -> x.row(one, told));
            }
            asked("left", x -> x.left(one, 0));
            asked("more", x -> x.more(one, 15));
            asked("change 0", x -> x.change(one, 0));
            asked("change 1", x -> x.change(one, 1));
        }
        for (int what = 0; what < 3; what++) {
            int told = what;
            asked("order " + what, x -> x.order(told));
        }
        asked("spurts 0", x -> x.spurts(20, 3, 0));
        asked("spurts 1", x -> x.spurts(60, 0, 1));
    }

    /** "0 WAY, 1 speed at the end, 2 TURN, 3 LOST, 4 SLIPPED .. NO: none such." */
    private static void rowsAsked() {
        EightOars x = slipping(300, 'l', 40);
        long[] due = {100 + 57, 57, -600, 40, 3};
        for (int what = 0; what < 5; what++) {
            told("told", x, 3, what, due[what]);
        }
        told("none such", x, 3, -1, EightOars.NO);
        told("none such", x, 3, 5, EightOars.NO);
        told("none such", x, -1, WAY, EightOars.NO);
        told("none such", x, 4, WAY, EightOars.NO);
    }

    /** "What a ROWER has in its STORE behind a ROW. -5: none such." */
    private static void left() {
        EightOars x = one(2, 1000, 9, "give 100;drag 0;");
        x.rower(60, 60, 77, 33);
        Due.is("who sits", x.left(0, 0), 909);
        Due.is("who sits, behind three", x.left(2, 0), 727);
        Due.is("who does not sit fills nothing", x.left(2, 1), 77);
        Due.is("ROWER -1", x.left(0, -1), -5);
        Due.is("ROWER 2", x.left(0, 2), -5);
        Due.is("PLAN -1", x.left(-1, 0), -5);
        Due.is("PLAN 3", x.left(3, 0), -5);
    }

    /** "ROWN: a ROW that is done: STORES are as it left them."; "NO: none such." */
    private static void rown() {
        EightOars x = one(2, 250, 0, "give 100;drag 0;");
        x.rower(60, 60, 77, 33);
        Due.is("WAY", x.rown(0), 33);
        Due.is("STORE", x.rowerTold(0, 2), 150);
        Due.is("WAY", x.rown(1), 33 + 66);
        Due.is("STORE", x.rowerTold(0, 2), 0);
        Due.is("WAY of half of it", x.rown(0), 16);
        Due.is("STORE", x.rowerTold(0, 2), 0);
        Due.is("who does not sit", x.rowerTold(1, 2), 77);
        Due.is("PLAN -1", x.rown(-1), EightOars.NO);
        Due.is("PLAN 3", x.rown(3), EightOars.NO);
        EightOars y = new EightOars();
        Due.is("none", y.rown(0), EightOars.NO);
        Due.plan(y, "r1");
        Due.is("of nobody", y.rown(0), 0);
    }

    /** "seats: 10 times the one and the other one"; "NO: none such, alike." */
    private static void moreOfAllSeats() {
        EightOars x = Whole.busy();
        for (int seats = -100; seats < 200; seats++) {
            int one = seats / 10;
            int other = seats % 10;
            boolean are = seats >= 0 && one <= 7 && other <= 7 && one != other;
            long more = x.more(0, seats);
            Due.holds("SEATS " + seats, are == (more != EightOars.NO));
            if (are) {
                Due.is("the other way about " + seats, x.more(0, 10 * other + one), more);
            }
        }
        Due.is("no PLAN", x.more(-1, 1), EightOars.NO);
        Due.is("no PLAN", x.more(3, 1), EightOars.NO);
    }

    /** "WAY of a ROW by a PLAN as if two SEATS had changed ROWERS, less WAY as it is" */
    private static void moreIsAsIfChanged() {
        for (int one = 0; one < 8; one++) {
            for (int other = 0; other < 8; other++) {
                if (one == other) {
                    continue;
                }
                EightOars x = Whole.busy();
                long more = x.more(1, 10 * one + other);
                long was = x.row(1, WAY);
                int a = x.sit(one, -1);
                int b = x.sit(other, -1);
                x.sit(one, b);
                x.sit(other, a);
                Due.is("more(1, " + one + other + ")", more, x.row(1, WAY) - was);
            }
        }
    }

    /** "the one with the greatest MORE": of all 28, by several rules */
    private static void bestChangeIsTheGreatest() {
        String[] rules = {"give force;drag 0;", "give force * seat;drag speed;", "give store;drag seat;",
            "give 300 - 20 * seat + force;drag force;", "give gear * 90 - store;drag 9;"};
        for (String rule : rules) {
            EightOars x = Whole.busy();
            // its tape is a plan's beginning: read, it is empty
            x.plan();
            Due.rule(x, rule);
            for (int plan = 0; plan < 3; plan++) {
                long greatest = Long.MIN_VALUE;
                int best = -1;
                for (int one = 0; one < 8; one++) {
                    for (int other = one + 1; other < 8; other++) {
                        long more = x.more(plan, 10 * one + other);
                        if (more > greatest) {
                            greatest = more;
                            best = 10 * one + other;
                        }
                    }
                }
                Due.is("SEATS by " + rule, x.change(plan, 0), best);
                Due.is("MORE by " + rule, x.change(plan, 1), greatest);
            }
        }
    }

    /** "the one with the greatest MORE": all are less than 0 */
    private static void bestChangeOfLosses() {
        EightOars x = new EightOars();
        for (int seat = 0; seat < 8; seat++) {
            x.rower(100, 10 * seat + 10, 9999, 0);
            x.sit(seat, seat);
        }
        Due.rule(x, "give force * seat;drag 0;");
        Due.plan(x, "r1");
        told("as it is", x, 0, WAY, 168);
        // neighbours changed: 1670 * 100 / 1000
        Due.is("the first neighbours", x.change(0, 0), 1);
        Due.is("MORE", x.change(0, 1), -1);
    }

    /** "of all pairs of SEATS (the lesser first)": the last pair of all */
    private static void bestChangeIsTheLast() {
        EightOars x = new EightOars();
        for (int seat = 0; seat < 8; seat++) {
            x.rower(100, seat == 7 ? 99 : 1, 9999, 0);
            x.sit(seat, seat);
        }
        Due.rule(x, "give (seat = 6) * force * 10;drag 0;");
        Due.plan(x, "r1");
        Due.is("SEATS 6 and 7", x.change(0, 0), 67);
        Due.is("MORE", x.change(0, 1), 99 - 1);
        Due.rule(x, "give (seat = 0) * force * 10;drag 0;");
        Due.is("SEATS 0 and 7", x.change(0, 0), 7);
    }

    /** "of like ones the first (10 times the lesser, and the other)" */
    private static void bestChangeOfLikeOnes() {
        EightOars x = new EightOars();
        Due.plan(x, "r9");
        Due.is("nobody sits", x.change(0, 0), 1);
        Due.is("MORE", x.change(0, 1), 0);
        for (int seat = 0; seat < 8; seat++) {
            x.rower(100, seat < 6 ? 1 : 99, 9999, 0);
            x.sit(seat, seat);
        }
        Due.rule(x, "give (seat = 2 or seat = 5) * force * 10;drag 0;");
        Due.is("26, 27, 56, 57", x.change(0, 0), 26);
        Due.is("as much as 57", x.change(0, 1), x.more(0, 57));
    }

    /** "of all pairs of SEATS": those in which nobody sits in one of them, or in both */
    private static void bestChangeWithNobody() {
        EightOars x = Due.withRowers(1);
        x.sit(4, 0);
        Due.plan(x, "r1");
        Due.rule(x, "give 30 * seat;drag 0;");
        Due.is("to SEAT 7", x.change(0, 0), 47);
        Due.is("MORE", x.change(0, 1), 70 - 40);
        x.sit(7, 0);
        Due.is("to none: two empty ones", x.change(0, 0), 1);
        Due.is("no MORE", x.change(0, 1), 0);
        Due.rule(x, "give 210 - 30 * seat;drag 0;");
        Due.is("to SEAT 0", x.change(0, 0), 7);
        Due.is("MORE", x.change(0, 1), 70);
        x.sit(0, 0);
        Due.is("to none: 12, the first of two empty ones", x.change(0, 0), 12);
        Due.is("no MORE", x.change(0, 1), 0);
    }

    /** "the SEATS (what 0), MORE (1). NO: none such." */
    private static void changeAsked() {
        EightOars x = Due.withRowers(1);
        Due.is("no PLAN", x.change(0, 0), EightOars.NO);
        Due.plan(x, "r1");
        Due.is("what -1", x.change(0, -1), EightOars.NO);
        Due.is("what 2", x.change(0, 2), EightOars.NO);
        Due.is("PLAN -1", x.change(-1, 0), EightOars.NO);
        Due.is("PLAN 1", x.change(1, 0), EightOars.NO);
    }

    /** "of like ones the least as bits (SEATS with SIDE 1)": nobody, one, two */
    private static void orderOfFew() {
        EightOars x = Due.withRowers(2);
        Due.rule(x, "give 10;drag 0;");
        Due.is("nobody", x.order(0), 0b1111);
        Due.is("nobody WAGS", x.order(1), 0);
        Due.is("nobody WAGS as it is", x.order(2), 0);
        for (int seat = 0; seat < 8; seat++) {
            x.sit(seat, 0);
            Due.is("one in SEAT " + seat, x.order(0), 0b1111);
            Due.is("it WAGS", x.order(1), 10 * (seat + 1));
            Due.is("as it is", x.order(2), 10 * (seat + 1));
        }
        x.sit(0, 0);
        x.sit(1, 1);
        Due.is("SEATS 0 and 1", x.order(0), 0b11101);
        Due.is("they WAG", x.order(1), 10);
        Due.is("as it is", x.order(2), 10);
        x.rig(1, 0, 0);
        Due.is("on one SIDE", x.order(2), 30);
        x.rig(0, 0, 1);
        x.rig(1, 0, 1);
        Due.is("without its sign", x.order(2), 30);
        x.sit(7, 1);
        Due.is("SEATS 0 and 7", x.order(0), 0b1111);
        Due.is("SEATS 0 and 7 WAG", x.order(1), 70);
    }

    /** "all ways to give four SEATS SIDE 0, four SIDE 1": not three, not five */
    private static void orderOfAll() {
        EightOars x = Due.withRowers(8);
        for (int seat = 0; seat < 8; seat++) {
            x.sit(seat, seat);
        }
        Due.rule(x, "give 10;drag 0;");
        Due.is("3, 4, 5, 6 against 1, 2, 7, 8", x.order(0), 0b00111100);
        Due.is("they don't WAG", x.order(1), 0);
        Due.is("as it is", x.order(2), 40);
        // seven against SEAT 7 would WAG less
        Due.rule(x, "give 1 + 99 * (seat = 7);drag 0;");
        Due.is("800 against four of seven", x.order(1), 800 + 1 + 2 + 3 - 4 - 5 - 6 - 7);
        Due.is("the four that go against it", x.order(0), 0b01111000);
    }

    /** "behind one STROKE (KIND 0) of all", from STORES as they are */
    private static void orderWithEmptyStores() {
        EightOars x = one(0, 0, 0, "give 101 + 9 * stroke + speed;drag 0;");
        Due.is("half of it", x.order(2), 50);
        Due.is("half of it", x.order(1), 50);
        x.rower(100, 1, 1, 0);
        x.sit(0, 1);
        Due.is("of a STORE of 1", x.order(2), 101);
        Due.is("asked again", x.order(2), 101);
    }

    /** "SEATS with SIDE 1 (what 0, bits), .. (1), .. (2). NO: none such." */
    private static void orderAsked() {
        EightOars x = new EightOars();
        Due.is("what -1", x.order(-1), EightOars.NO);
        Due.is("what 3", x.order(3), EightOars.NO);
        Due.is("what 2", x.order(2), 0);
    }

    /** "a ROW of n STROKES (1 .. 60), of which the first k are STARTS (0 .. n)": one */
    private static void spurtsOfOne() {
        EightOars x = one(1, 9999, 0, "give 300;drag 0;");
        Due.is("one SPURT", x.spurts(1, 0, 0), 1);
        Due.is("one SPURT's WAY", x.spurts(1, 0, 1), 125);
        Due.is("one START", x.spurts(1, 1, 0), 0);
        Due.is("one START's WAY", x.spurts(1, 1, 1), 66);
        Due.is("k -1", x.spurts(1, -1, 0), EightOars.NO);
        Due.is("k 2", x.spurts(1, 2, 0), EightOars.NO);
        Due.is("n 0", x.spurts(0, 0, 0), EightOars.NO);
    }

    /** "n STROKES (1 .. 60)": sixty, all of them STARTS, all but one, and none */
    private static void spurtsOfSixty() {
        EightOars x = one(1, 9999, 99, "give 90;drag 0;");
        Due.is("STARTS alone", x.spurts(60, 60, 0), 0);
        Due.is("20 more each time", x.spurts(60, 60, 1), 20 * 60 * 61 / 2);
        // a SPURT's 37 less 11 of 1180, a STROKE's 30
        Due.is("no SPURT at that speed", x.spurts(60, 59, 0), 0);
        Due.is("59 STARTS and a STROKE", x.spurts(60, 59, 1), 20 * 59 * 60 / 2 + 1180 + 30);
        Due.is("n 61", x.spurts(61, 0, 0), EightOars.NO);
        Due.is("n 61, k 61", x.spurts(61, 61, 0), EightOars.NO);
        Due.is("k 61", x.spurts(60, 61, 0), EightOars.NO);
        Due.holds("none is a START", x.spurts(60, 0, 1) > x.spurts(60, 1, 1));
    }

    /** "the last j SPURTS: .. j from 0 to n - k: the j with the greatest WAY" */
    private static void spurtsByPlans() {
        String[] rules = {"give 90;drag 0;", "give 90;drag speed;", "give force;drag 0;",
            "give 500 - 7 * stroke;drag speed + stroke;", "give 700;drag store;"};
        int[] stores = {9999, 9999, 700, 3000, 4000};
        int[][] sizes = {{60, 0}, {60, 30}, {7, 2}, {1, 0}, {12, 11}, {12, 12}};
        for (int r = 0; r < rules.length; r++) {
            for (int[] size : sizes) {
                int n = size[0];
                int k = size[1];
                long farthest = -1;
                int best = -1;
                for (int j = 0; j <= n - k; j++) {
                    EightOars x = one(0, stores[r], 20, rules[r]);
                    String plan = (k > 0 ? "s" + k : "") + (n - k - j > 0 ? "r" + (n - k - j) : "")
                            + (j > 0 ? "x" + j : "");
                    long way = x.row(Due.plan(x, plan), WAY);
                    if (way > farthest) {
                        farthest = way;
                        best = j;
                    }
                }
                EightOars x = one(0, stores[r], 20, rules[r]);
                String name = rules[r] + " of " + n + ", " + k;
                Due.is(name, x.spurts(n, k, 0), best);
                Due.is(name + ", WAY", x.spurts(n, k, 1), farthest);
            }
        }
    }

    /** "of like ones the least" */
    private static void spurtsAlike() {
        EightOars x = new EightOars();
        Due.is("nobody", x.spurts(60, 0, 0), 0);
        Due.is("nobody's WAY", x.spurts(60, 0, 1), 0);
        x = one(1, 9999, 99, "give 3;drag 0;");
        // a SPURT of 3 pulls 3, and of a speed below 100 it slips nothing
        Due.is("like ones", x.spurts(60, 0, 0), 0);
        Due.is("like ones' WAY", x.spurts(60, 0, 1), 60 * 61 / 2);
        Due.is("one START is worse", x.spurts(60, 1, 1), 59 * 60 / 2);
    }

    /** "j (what 0), WAY (1). NO: n, k, what." */
    private static void spurtsAsked() {
        EightOars x = new EightOars();
        Due.is("what -1", x.spurts(5, 0, -1), EightOars.NO);
        Due.is("what 2", x.spurts(5, 0, 2), EightOars.NO);
        Due.is("n -1", x.spurts(-1, 0, 0), EightOars.NO);
        Due.is("n -1, k -1", x.spurts(-1, -1, 0), EightOars.NO);
        Due.is("n 5, k 5", x.spurts(5, 5, 0), 0);
        Due.is("n 5, k 6", x.spurts(5, 6, 0), EightOars.NO);
        Due.is("k -1", x.spurts(5, -1, 0), EightOars.NO);
    }
}
