/** Promises 1 to 7: a new object, rower, rowerTold, sit, rig, water, stroke. */
public final class RowersTest {
    public static void main(String[] args) {
        newObject();
        rowers();
        rowersTold();
        sitting();
        rigging();
        waters();
        strokePulls();
        strokeCosts();
        strokeRefusals();
        Due.end();
    }

    private static void newObject() {
        EightOars x = new EightOars();
        int[] counts = {0, 0, 0, 1, 0, 0, 0, 0, 0};
        for (int what = 0; what < counts.length; what++) {
            Due.is("new count " + what, x.count(what), counts[what]);
        }
        Due.is("new DRAG", x.water(0, 1), 20);
        Due.is("new WIND", x.water(1, 1), 0);
        for (int seat = 0; seat < 8; seat++) {
            Due.is("new SEAT " + seat, x.sit(seat, -1), -1);
            Due.is("new SIDE " + seat, x.rig(seat, 0, 0), seat % 2);
            Due.is("new GEAR " + seat, x.rig(seat, 1, 1), 4);
        }
        for (int sheet = 0; sheet < 4; sheet++) {
            Due.is("new SHEET " + sheet, x.cell(sheet, 0, 0), -11);
        }
    }

    private static void rowers() {
        EightOars x = new EightOars();
        int[][] wrong = {{39, 1, 0, 0}, {121, 1, 0, 0}, {40, 0, 0, 0}, {40, 100, 0, 0},
            {40, 1, -1, 0}, {40, 1, 10000, 0}, {40, 1, 0, -1}, {40, 1, 0, 100},
            {Integer.MIN_VALUE, 1, 0, 0}, {40, Integer.MAX_VALUE, 0, 0}};
        for (int[] told : wrong) {
            Due.is("rower out of bounds", x.rower(told[0], told[1], told[2], told[3]), -2);
        }
        Due.is("no rower came", x.count(0), 0);
        Due.is("least rower", x.rower(40, 1, 0, 0), 0);
        Due.is("most rower", x.rower(120, 99, 9999, 99), 1);
        for (int i = 2; i < 16; i++) {
            Due.is("rower " + i, x.rower(50, 50, 50, 50), i);
        }
        Due.is("17th rower", x.rower(50, 50, 50, 50), -4);
        Due.is("BAD ahead of FULL", x.rower(39, 50, 50, 50), -2);
        Due.is("rowers", x.count(0), 16);
    }

    private static void rowersTold() {
        EightOars x = new EightOars();
        x.rower(71, 42, 333, 9);
        x.rower(72, 43, 334, 10);
        int[] told = {72, 43, 334, 10, -1};
        for (int what = 0; what < told.length; what++) {
            Due.is("told " + what, x.rowerTold(1, what), told[what]);
        }
        x.sit(6, 1);
        Due.is("its SEAT", x.rowerTold(1, 4), 6);
        Due.is("the other's SEAT", x.rowerTold(0, 4), -1);
        Due.is("no rower", x.rowerTold(2, 0), -5);
        Due.is("rower -1", x.rowerTold(-1, 4), -5);
        Due.is("what -1", x.rowerTold(0, -1), -5);
        Due.is("what 5", x.rowerTold(0, 5), -5);
    }

    private static void sitting() {
        EightOars x = new EightOars();
        x.rower(50, 5, 5, 5);
        x.rower(60, 5, 5, 5);
        Due.is("sits", x.sit(0, 0), -1);
        Due.is("sits there already", x.sit(0, 0), 0);
        Due.is("still there", x.rowerTold(0, 4), 0);
        Due.is("another one", x.sit(0, 1), 0);
        Due.is("stands ashore", x.rowerTold(0, 4), -1);
        Due.is("goes to another SEAT", x.sit(7, 1), -1);
        Due.is("nobody where it sat", x.sit(0, -1), -1);
        Due.is("one sits", x.count(1), 1);
        Due.is("leaves", x.sit(7, -1), 1);
        Due.is("none sits", x.count(1), 0);
        Due.is("SEAT 8", x.sit(8, 0), -5);
        Due.is("SEAT -1", x.sit(-1, 0), -5);
        Due.is("rower 2", x.sit(0, 2), -5);
        Due.is("rower -2", x.sit(0, -2), -5);
        Due.is("nothing changed", x.count(1), 0);
    }

    private static void rigging() {
        EightOars x = new EightOars();
        Due.is("SIDE", x.rig(7, 0, 0), 1);
        Due.is("SIDE again", x.rig(7, 0, 1), 0);
        Due.is("GEAR", x.rig(7, 1, 9), 4);
        Due.is("GEAR again", x.rig(7, 1, 1), 9);
        int[][] wrong = {{-1, 0, 0}, {8, 0, 0}, {0, 0, -1}, {0, 0, 2}, {0, 1, 0}, {0, 1, 10},
            {0, 2, 1}, {0, -1, 1}};
        for (int[] told : wrong) {
            Due.is("rig out of bounds", x.rig(told[0], told[1], told[2]), -2);
        }
        Due.is("SIDE is as it was", x.rig(0, 0, 0), 0);
        Due.is("GEAR is as it was", x.rig(0, 1, 4), 4);
    }

    private static void waters() {
        EightOars x = new EightOars();
        Due.is("DRAG", x.water(0, 999), 20);
        Due.is("DRAG again", x.water(0, 1), 999);
        Due.is("WIND", x.water(1, -99), 0);
        Due.is("WIND again", x.water(1, 99), -99);
        int[][] wrong = {{0, 0}, {0, 1000}, {1, -100}, {1, 100}, {2, 1}, {-1, 1}};
        for (int[] told : wrong) {
            Due.is("water out of bounds", x.water(told[0], told[1]), -1000);
        }
        Due.is("DRAG is as it was", x.water(0, 20), 1);
        Due.is("WIND is as it was", x.water(1, 0), 99);
    }

    private static void strokePulls() {
        EightOars x = new EightOars();
        int[][] pulls = {
            {0, 0, 0, 0, 0, 0}, {1, 0, 1, 1, 0, 0}, {2, 1, 2, 2, 0, 0}, {3, 2, 3, 3, 0, 1},
            {4, 2, 5, 4, 1, 1}, {7, 4, 8, 7, 4, 2}, {999, 666, 1248, 999, 996, 333}};
        for (int[] row : pulls) {
            int g = row[0];
            Due.is("PULL of a STROKE, " + g, x.stroke(0, g, 3, 0), g);
            for (int kind = 1; kind < 6; kind++) {
                Due.is("PULL " + kind + ", " + g, x.stroke(kind, g, 7, 0), row[kind]);
            }
        }
        Due.is("LATE in SEAT 0", x.stroke(3, 9, 0, 0), 4);
        Due.is("ROUGH in SEAT 0", x.stroke(4, 9, 0, 0), 1);
        Due.is("ROUGH is not below 0", x.stroke(4, 1, 0, 0), 0);
        Due.is("a SPURT in SEAT 0", x.stroke(2, 9, 0, 0), 11);
        Due.is("EASY is cut twice", x.stroke(5, 5, 0, 0), 1);
    }

    private static void strokeCosts() {
        EightOars x = new EightOars();
        int[][] costs = {
            {0, 0, 5, 0, 0, 2, 1}, {1, 1, 6, 2, 1, 3, 2}, {9, 9, 14, 18, 9, 11, 4},
            {999, 999, 1004, 1998, 999, 1001, 334}};
        int[] slips = {0, 0, 1, 3, 5, 0};
        for (int kind = 0; kind < 6; kind++) {
            for (int[] row : costs) {
                Due.is("COST " + kind + ", " + row[0], x.stroke(kind, row[0], 0, 1), row[kind + 1]);
            }
            Due.is("SLIPS " + kind, x.stroke(kind, 500, 5, 2), slips[kind]);
        }
    }

    private static void strokeRefusals() {
        EightOars x = new EightOars();
        int[][] wrong = {{-1, 0, 0, 0}, {6, 0, 0, 0}, {0, -1, 0, 0}, {0, 1000, 0, 0},
            {0, 0, -1, 0}, {0, 0, 8, 0}, {0, 0, 0, -1}, {0, 0, 0, 3}};
        for (int[] told : wrong) {
            Due.is("no such stroke", x.stroke(told[0], told[1], told[2], told[3]), -2);
        }
    }
}
