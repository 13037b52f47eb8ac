/**
 * A busy object, a full one, and all that the calls tell of an object: so that a test sees whether
 * a call has changed anything at all. Setting up and telling all take fewer than 512 calls.
 */
final class Whole {
    private Whole() {
    }

    /** Some of everything, an image of another state, and a tape that is a plan's beginning. */
    static EightOars busy() {
        EightOars x = new EightOars();
        for (int i = 0; i < 6; i++) {
            x.rower(40 + 10 * i, 20 + i, 300 * i, i);
        }
        x.sit(1, 0);
        x.sit(0, 1);
        x.sit(3, 2);
        x.sit(7, 3);
        x.rig(1, 0, 0);
        x.rig(3, 1, 7);
        x.water(0, 55);
        x.water(1, -4);
        x.force(Due.text(x, "give 99 + seat;drag 7;"));
        Due.text(x, "give force * 2;drag speed;");
        x.image();
        x.sit(5, 0);
        x.sit(2, 4);
        x.rig(6, 1, 9);
        x.rig(0, 0, 1);
        x.water(0, 30);
        x.water(1, 8);
        x.force(2);
        Due.plan(x, "r2s1");
        Due.plan(x, "x3w1");
        Due.plan(x, "l1e1");
        x.rown(0);
        x.rower(99, 9, 9, 9);
        x.piece(0, 1, 10, 2);
        x.piece(1, 2, 20, 3);
        x.piece(0, 1, 12, 50);
        x.piece(2, 1, -24, 0);
        Due.race(x, 5, 6, 7, 8, 9, 10);
        Due.race(x, 9, 0, 7, 0, 8, 0);
        Due.race(x, 0, 4, 0, 3, 0, 2);
        x.sheet(3, -1, 0);
        Due.sheet(x, 0, 0, 0, 1, 9, 8, 0, 7);
        Due.sheet(x, 1, 1, 0, 1, 5, 1, 2, 3, 6, 2, 1, 1, 1, 1);
        Due.sheet(x, 2, 2, 7, 100, 9999, 0, 0, 6, 5);
        Due.feed(x, "s1r");
        return x;
    }

    /** As many of everything as there can be. */
    static EightOars full() {
        EightOars x = new EightOars();
        for (int i = 0; i < 16; i++) {
            x.rower(40 + i, 20 + i, 300 * i, i);
        }
        for (int seat = 0; seat < 8; seat++) {
            x.sit(seat, 15 - seat);
            Due.plan(x, "r1s2");
        }
        for (int i = 1; i < 6; i++) {
            Due.text(x, "give 9;drag 1;");
        }
        x.image();
        x.water(0, 21);
        Due.sheet(x, 0, 0, 0, 1, 9, 8, 2, 1, 9, 8);
        Due.sheet(x, 1, 1, 0, 1, 5, 1, 2, 3);
        for (int i = 0; i < 20; i++) {
            x.race(1);
        }
        for (int i = 0; i < 30; i++) {
            x.piece(0, 1, i, 2 * i);
        }
        for (int i = 0; i < 20; i++) {
            x.feed(8, 0x3172317231723172L);
        }
        return x;
    }

    /** The object is spent by it: seats, rig, water and the rest are not put back. */
    static String of(EightOars x) {
        StringBuilder all = new StringBuilder();
        counts(x, all);
        rows(x, all);
        pieces(x, all);
        sheetsOutside(x, all);
        boat(x, all);
        all.append("image ").append(x.back()).append(' ').append(x.count(5)).append(' ');
        boat(x, all);
        if (x.count(6) < 10) {
            sheetsInside(x, all);
        }
        if (x.count(2) < 8) {
            tape(x, all);
        }
        return all.toString();
    }

    private static void counts(EightOars x, StringBuilder all) {
        all.append("counts ");
        for (int what = 0; what < 9; what++) {
            all.append(x.count(what)).append(' ');
        }
        all.append("rowers ");
        for (int rower = 0; rower < x.count(0); rower++) {
            for (int what = 0; what < 4; what++) {
                all.append(x.rowerTold(rower, what)).append(' ');
            }
        }
    }

    private static void rows(EightOars x, StringBuilder all) {
        all.append("plans ");
        for (int plan = 0; plan < x.count(2); plan++) {
            all.append(x.planned(plan, -1)).append(' ').append(x.row(plan, 2)).append(' ');
        }
        all.append("rules ");
        int was = x.count(5);
        for (int text = 0; text < x.count(3); text++) {
            x.force(text);
            all.append(x.row(0, 0)).append(' ');
        }
        x.force(was);
    }

    private static void pieces(EightOars x, StringBuilder all) {
        int pieces = x.count(6);
        all.append("pieces ");
        for (int i = 0; i < pieces; i++) {
            all.append(x.worth(0, 1, 1 << i, 0)).append(' ').append(x.worth(0, 1, 1 << i, 1)).append(' ');
            if (pieces < 10) {
                all.append(x.worth(1, 2, 1 << i, 0)).append(' ').append(x.worth(1, 2, 1 << i, 1)).append(' ');
            }
        }
        all.append("races ").append(x.fair()).append(' ');
        for (int lane = 1; lane < 6; lane++) {
            all.append(x.lanes(0, lane, 0)).append('/').append(x.lanes(0, lane, 1)).append(' ');
        }
    }

    private static void sheetsOutside(EightOars x, StringBuilder all) {
        for (int sheet = 0; sheet < 4; sheet++) {
            all.append("sheet ");
            for (int sort = 0; sort < 3; sort++) {
                all.append(x.pieces(sheet, sort, 0, 0)).append(' ');
            }
            for (int n : new int[] {5, 6, 7, 8, 11, 12}) {
                all.append(x.copy(sheet, 0, sheet, 0, n)).append(' ');
            }
        }
    }

    private static void boat(EightOars x, StringBuilder all) {
        all.append("boat ");
        for (int seat = 0; seat < 8; seat++) {
            all.append(x.sit(seat, -1)).append(' ').append(x.rig(seat, 0, 0)).append(' ');
            all.append(x.rig(seat, 1, 1)).append(' ');
        }
        all.append(x.water(0, 1)).append(' ').append(x.water(1, 0)).append(' ');
        for (int rower = 0; rower < x.count(0); rower++) {
            all.append(x.rowerTold(rower, 2)).append(' ');
        }
    }

    private static void sheetsInside(EightOars x, StringBuilder all) {
        for (int sheet = 0; sheet < 3; sheet++) {
            all.append("items ");
            for (int i = 0; i < 6; i++) {
                all.append(item(x, sheet, sheet, i)).append(' ');
            }
        }
    }

    /** Item i of a sheet of a sort, by a piece (0, 1, item, 0); sheet 3 is used for it. */
    static long item(EightOars x, int sheet, int sort, int i) {
        int number = x.count(6);
        x.sheet(3, sort, 4);
        x.cell(3, 1, 1);
        x.copy(sheet, i, 3, 2, 1);
        if (x.pieces(3, sort, 0, 1) != 1) {
            return EightOars.NO;
        }
        return x.worth(0, 1, 1 << number, 0);
    }

    /** What stands on the tape, as far as it is the beginning of a plan. */
    private static void tape(EightOars x, StringBuilder all) {
        x.feed(1, '4');
        int plan = x.plan();
        all.append("tape ").append(plan).append(' ');
        for (int i = -1; i < 6; i++) {
            all.append(x.planned(plan, i)).append(' ');
        }
    }
}
