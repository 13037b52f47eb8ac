import java.util.function.Consumer;
import java.util.function.Supplier;
import java.util.function.ToLongFunction;

/**
 * "Refusals, the first that the call's words name; they change nothing": each refusal of each
 * promise on a busy object or a full one, its answer, and that all that can be told of the object
 * stays as it was.
 */
public final class RefusalsTest {
    private static final int LEAST = Integer.MIN_VALUE, MOST = Integer.MAX_VALUE;
    private static final long NO = EightOars.NO;
    private static final String BUSY = Whole.of(Whole.busy()), CROWDED = Whole.of(Whole.full());

    public static void main(String[] args) {
        changesAreSeen();
        askingChangesNothing();
        rower();
        rowerTold();
        sit();
        rig();
        water();
        stroke();
        feed();
        textsAndPlans();
        force();
        planned();
        row();
        left();
        rown();
        more();
        change();
        order();
        spurts();
        piece();
        worth();
        go();
        race();
        lanes();
        back();
        count();
        sheet();
        cell();
        copy();
        pieces();
        piecesInPart();
        taken();
        Due.end();
    }

    private static void refused(Supplier<EightOars> made, String was, String name, long due,
            ToLongFunction<EightOars> call) {
        EightOars x = made.get();
        Due.is(name, call.applyAsLong(x), due);
        String is = Whole.of(x);
        Due.holds(name + " changes nothing", is.equals(was));
    }

    private static void busy(String name, long due, ToLongFunction<EightOars> call) {
        refused(Whole::busy, BUSY, "busy: " + name, due, call);
    }

    private static void full(String name, long due, ToLongFunction<EightOars> call) {
        refused(Whole::full, CROWDED, "full: " + name, due, call);
    }

    private static String named(String call, int[] told) {
        StringBuilder name = new StringBuilder(call).append('(');
        for (int i = 0; i < told.length; i++) {
            name.append(i == 0 ? "" : ", ").append(told[i]);
        }
        return name.append(')').toString();
    }

    private static void seen(String name, Consumer<EightOars> call) {
        EightOars x = Whole.busy();
        call.accept(x);
        Due.holds(name + " is seen", !Whole.of(x).equals(BUSY));
    }

    /** A test of what the others stand on: changes of all sorts are seen. */
    private static void changesAreSeen() {
        Due.holds("nothing done, nothing seen", Whole.of(Whole.busy()).equals(BUSY));
        Due.holds("a full one too", Whole.of(Whole.full()).equals(CROWDED));
        seen("a rower", x -> x.rower(40, 1, 0, 0));
        seen("a seat", x -> x.sit(4, 6));
        seen("who leaves", x -> x.sit(7, -1));
        seen("a side", x -> x.rig(4, 0, 1));
        seen("a gear", x -> x.rig(4, 1, 5));
        seen("drag", x -> x.water(0, 31));
        seen("wind", x -> x.water(1, 9));
        seen("a byte", x -> x.feed(1, '1'));
        seen("another byte", x -> {
            x.plan();
            Due.feed(x, "x1r");
        });
        seen("a text", x -> Due.text(x, "give 1;drag 1;"));
        seen("the rule", x -> x.force(1));
        seen("stores", x -> x.rown(1));
        seen("a piece", x -> x.piece(0, 1, 0, 0));
        seen("a race", x -> Due.race(x, 1, 1, 1, 1, 1, 1));
        seen("an image", x -> x.image());
        seen("back", x -> x.back());
        seen("a sheet", x -> x.sheet(3, 0, 1));
        seen("a sheet of another sort", x -> x.sheet(0, 1, 6));
        seen("a sheet of another size", x -> x.sheet(0, 0, 7));
        seen("a sheet anew", x -> x.sheet(0, 0, 6));
        seen("no sheet", x -> x.sheet(0, -1, 6));
        for (int sheet = 0; sheet < 3; sheet++) {
            int one = sheet;
            seen("a cell of " + one, x -> x.cell(one, 5, 99));
            seen("copy on " + one, x -> x.copy(one, 2, one, 0, 1));
        }
        seen("pieces", x -> x.pieces(1, 1, 0, 1));
    }

    /** Calls that only tell something leave all as it is (those by a ROW: see RowEdgesTest). */
    private static void askingChangesNothing() {
        for (int what = 0; what < 5; what++) {
            int told = what;
            busy("rowerTold(0, " + what + ")", new int[] {40, 20, 0, 0, 5}[what], x -> x.rowerTold(0, told));
        }
        busy("stroke(1, 30, 0, 0)", 20, x -> x.stroke(1, 30, 0, 0));
        busy("planned(0, -1)", 3, x -> x.planned(0, -1));
        busy("planned(0, 2)", 1, x -> x.planned(0, 2));
        busy("worth(0, 1, 1, 0)", 8, x -> x.worth(0, 1, 1, 0));
        busy("worth(0, 1, 5, 1)", 12, x -> x.worth(0, 1, 5, 1));
        busy("go(15)", 2, x -> x.go(15));
        busy("lanes(0, 2, 0)", 0, x -> x.lanes(0, 2, 0));
        busy("fair()", 1 + 4 + 32, x -> x.fair());
        busy("count(0)", 7, x -> x.count(0));
        busy("pieces(0, 0, 0, 0)", 0, x -> x.pieces(0, 0, 0, 0));
        busy("copy(1, 0, 1, 12, 0)", 0, x -> x.copy(1, 0, 1, 12, 0));
        busy("taken(0, 2, 0)", 2, x -> x.taken(0, 2, 0));
        busy("sit(1, -1) where nobody sits", -1, x -> x.sit(1, -1));
        busy("force(2), which is THE RULE", 2, x -> x.force(2));
    }

    /** "BAD; FULL." */
    private static void rower() {
        int[][] wrong = {{39, 50, 50, 50}, {121, 50, 50, 50}, {50, 0, 50, 50}, {50, 100, 50, 50},
            {50, 50, -1, 50}, {50, 50, 10000, 50}, {50, 50, 50, -1}, {50, 50, 50, 100},
            {LEAST, 50, 50, 50}, {MOST, 50, 50, 50}, {50, LEAST, 50, 50}, {50, MOST, 50, 50},
            {50, 50, LEAST, 50}, {50, 50, MOST, 50}, {50, 50, 50, LEAST}, {50, 50, 50, MOST}};
        for (int[] t : wrong) {
            busy(named("rower", t), -2, x -> x.rower(t[0], t[1], t[2], t[3]));
            full(named("BAD ahead of FULL, rower", t), -2, x -> x.rower(t[0], t[1], t[2], t[3]));
        }
        full("rower", -4, x -> x.rower(50, 50, 50, 50));
        full("the least rower", -4, x -> x.rower(40, 1, 0, 0));
    }

    /** "-5: none such." */
    private static void rowerTold() {
        int[][] wrong = {{-1, 0}, {7, 0}, {16, 0}, {LEAST, 0}, {MOST, 0}, {0, -1}, {0, 5},
            {0, LEAST}, {0, MOST}, {-1, 4}, {7, 4}};
        for (int[] t : wrong) {
            busy(named("rowerTold", t), -5, x -> x.rowerTold(t[0], t[1]));
        }
        full("rowerTold(16, 0)", -5, x -> x.rowerTold(16, 0));
        full("rowerTold(16, 4)", -5, x -> x.rowerTold(16, 4));
    }

    /** "-5: none such." */
    private static void sit() {
        int[][] wrong = {{-1, 0}, {8, 0}, {LEAST, 0}, {MOST, 0}, {0, -2}, {0, 7}, {0, LEAST},
            {0, MOST}, {-1, -1}, {8, -1}};
        for (int[] t : wrong) {
            busy(named("sit", t), -5, x -> x.sit(t[0], t[1]));
        }
        full("sit(0, 16)", -5, x -> x.sit(0, 16));
    }

    /** "BAD." */
    private static void rig() {
        int[][] wrong = {{-1, 0, 1}, {8, 0, 1}, {LEAST, 0, 1}, {MOST, 0, 1}, {-1, 1, 5}, {8, 1, 5},
            {0, -1, 1}, {0, 2, 1}, {0, LEAST, 1}, {0, MOST, 1}, {1, 0, -1}, {1, 0, 2},
            {1, 0, LEAST}, {1, 0, MOST}, {1, 1, 0}, {1, 1, 10}, {1, 1, -1}, {1, 1, LEAST},
            {1, 1, MOST}};
        for (int[] t : wrong) {
            busy(named("rig", t), -2, x -> x.rig(t[0], t[1], t[2]));
        }
    }

    /** "-1000: none such." */
    private static void water() {
        int[][] wrong = {{-1, 5}, {2, 5}, {LEAST, 5}, {MOST, 5}, {0, 0}, {0, -1}, {0, 1000},
            {0, LEAST}, {0, MOST}, {1, -100}, {1, 100}, {1, LEAST}, {1, MOST}};
        for (int[] t : wrong) {
            busy(named("water", t), -1000, x -> x.water(t[0], t[1]));
        }
    }

    /** "BAD." */
    private static void stroke() {
        int[][] wrong = {{-1, 5, 0, 0}, {6, 5, 0, 0}, {LEAST, 5, 0, 0}, {MOST, 5, 0, 0},
            {0, -1, 0, 0}, {0, 1000, 0, 0}, {0, LEAST, 0, 0}, {0, MOST, 0, 0}, {0, 5, -1, 0},
            {0, 5, 8, 0}, {0, 5, LEAST, 0}, {0, 5, MOST, 0}, {0, 5, 0, -1}, {0, 5, 0, 3},
            {0, 5, 0, LEAST}, {0, 5, 0, MOST}, {2, 1000, 0, 2}, {2, 5, 8, 1}};
        for (int[] t : wrong) {
            busy(named("stroke", t), -2, x -> x.stroke(t[0], t[1], t[2], t[3]));
        }
    }

    /** "BAD: n is not 1 .. 8. FULL." */
    private static void feed() {
        for (int n : new int[] {0, 9, -1, LEAST, MOST}) {
            busy("feed(" + n + ")", -2, x -> x.feed(n, '1'));
            full("BAD ahead of FULL, feed(" + n + ")", -2, x -> x.feed(n, '1'));
        }
        full("feed(1)", -4, x -> x.feed(1, '1'));
        full("feed(8)", -4, x -> x.feed(8, '1'));
    }

    /** "FULL (ahead of all): .. (THE TAPE stays)." */
    private static void textsAndPlans() {
        full("text()", -4, x -> x.text());
        full("plan()", -4, x -> x.plan());
    }

    /** "BAD." */
    private static void force() {
        for (int text : new int[] {-1, 3, 6, LEAST, MOST}) {
            busy("force(" + text + ")", -2, x -> x.force(text));
        }
        full("force(6)", -2, x -> x.force(6));
    }

    /** "NONE: none such." */
    private static void planned() {
        int[][] wrong = {{-1, 0}, {3, 0}, {-1, -1}, {3, -1}, {LEAST, 0}, {MOST, 0}, {0, 3}, {0, -2},
            {0, LEAST}, {0, MOST}, {1, 4}, {0, 200}, {0, 199}};
        for (int[] t : wrong) {
            busy(named("planned", t), -1, x -> x.planned(t[0], t[1]));
        }
        full("planned(8, -1)", -1, x -> x.planned(8, -1));
    }

    /** "NO: none such." */
    private static void row() {
        int[][] wrong = {{-1, 0}, {3, 0}, {8, 0}, {LEAST, 0}, {MOST, 0}, {0, -1}, {0, 5},
            {0, LEAST}, {0, MOST}};
        for (int[] t : wrong) {
            busy(named("row", t), NO, x -> x.row(t[0], t[1]));
        }
        full("row(8, 0)", NO, x -> x.row(8, 0));
    }

    /** "-5: none such." */
    private static void left() {
        int[][] wrong = {{-1, 0}, {3, 0}, {8, 0}, {LEAST, 0}, {MOST, 0}, {0, -1}, {0, 7}, {0, 16},
            {0, LEAST}, {0, MOST}};
        for (int[] t : wrong) {
            busy(named("left", t), -5, x -> x.left(t[0], t[1]));
        }
        full("left(8, 0)", -5, x -> x.left(8, 0));
        full("left(0, 16)", -5, x -> x.left(0, 16));
    }

    /** "NO: none such." */
    private static void rown() {
        for (int plan : new int[] {-1, 3, 8, LEAST, MOST}) {
            busy("rown(" + plan + ")", NO, x -> x.rown(plan));
        }
        full("rown(8)", NO, x -> x.rown(8));
    }

    /** "NO: none such, alike." */
    private static void more() {
        int[][] wrong = {{-1, 1}, {3, 1}, {8, 1}, {LEAST, 1}, {MOST, 1}, {0, -1}, {0, -10},
            {0, -12}, {0, LEAST}, {0, MOST}, {0, 100}, {0, 101}, {0, 170}};
        for (int[] t : wrong) {
            busy(named("more", t), NO, x -> x.more(t[0], t[1]));
        }
        for (int seats = 0; seats < 100; seats++) {
            int told = seats;
            if (seats / 10 > 7 || seats % 10 > 7 || seats % 11 == 0) {
                busy("more(0, " + seats + ")", NO, x -> x.more(0, told));
            }
        }
        full("more(8, 1)", NO, x -> x.more(8, 1));
    }

    /** "NO: none such." */
    private static void change() {
        int[][] wrong = {{-1, 0}, {3, 0}, {8, 1}, {LEAST, 0}, {MOST, 0}, {0, -1}, {0, 2},
            {0, LEAST}, {0, MOST}};
        for (int[] t : wrong) {
            busy(named("change", t), NO, x -> x.change(t[0], t[1]));
        }
        full("change(8, 0)", NO, x -> x.change(8, 0));
    }

    /** "NO: none such." */
    private static void order() {
        for (int what : new int[] {-1, 3, LEAST, MOST}) {
            busy("order(" + what + ")", NO, x -> x.order(what));
        }
    }

    /** "NO: n, k, what." */
    private static void spurts() {
        int[][] wrong = {{0, 0, 0}, {-1, 0, 0}, {61, 0, 0}, {61, 61, 0}, {LEAST, 0, 0},
            {MOST, 0, 0}, {5, -1, 0}, {5, 6, 0}, {60, 61, 0}, {5, LEAST, 0}, {5, MOST, 0},
            {5, 0, -1}, {5, 0, 2}, {5, 0, LEAST}, {5, 0, MOST}};
        for (int[] t : wrong) {
            busy(named("spurts", t), NO, x -> x.spurts(t[0], t[1], t[2]));
        }
    }

    /** "BAD; FULL." */
    private static void piece() {
        int[][] wrong = {{-1, 1, 5, 5}, {7, 1, 5, 5}, {LEAST, 1, 5, 5}, {MOST, 1, 5, 5},
            {1, -1, 5, 5}, {1, 7, 5, 5}, {1, LEAST, 5, 5}, {1, MOST, 5, 5}, {0, 0, 5, 5},
            {6, 6, 5, 5}, {0, 1, -10000, 5}, {0, 1, 10000, 5}, {0, 1, LEAST, 5}, {0, 1, MOST, 5},
            {0, 1, 5, -1}, {0, 1, 5, 1000}, {0, 1, 5, LEAST}, {0, 1, 5, MOST}};
        for (int[] t : wrong) {
            busy(named("piece", t), -2, x -> x.piece(t[0], t[1], t[2], t[3]));
        }
        full("BAD ahead of FULL, alike", -2, x -> x.piece(3, 3, 5, 5));
        full("BAD ahead of FULL, no rower", -2, x -> x.piece(0, 16, 5, 5));
        full("BAD ahead of FULL, no rower", -2, x -> x.piece(16, 0, 5, 5));
        full("BAD ahead of FULL, farther", -2, x -> x.piece(0, 1, 10000, 5));
        full("BAD ahead of FULL, slip", -2, x -> x.piece(0, 1, 5, 1000));
        full("piece", -4, x -> x.piece(0, 1, 5, 5));
    }

    /** "NO: none such (PIECES that there aren't, too), alike; STATE: a QUARREL." */
    private static void worth() {
        int[][] wrong = {{-1, 1, 1, 0}, {7, 1, 1, 0}, {LEAST, 1, 1, 0}, {MOST, 1, 1, 0},
            {1, -1, 1, 0}, {1, 7, 1, 0}, {1, LEAST, 1, 0}, {1, MOST, 1, 0}, {2, 2, 1, 0},
            {0, 1, 16, 0}, {0, 1, 31, 0}, {0, 1, 1 << 30, 0}, {0, 1, -1, 0}, {0, 1, LEAST, 0},
            {0, 1, MOST, 0}, {0, 1, 1, -1}, {0, 1, 1, 2}, {0, 1, 1, LEAST}, {0, 1, 1, MOST},
            {-1, 1, 10, 0}, {1, 7, 10, 0}, {2, 2, 10, 0}, {0, 1, 26, 0}, {0, 1, 10, 2},
            {0, 1, 10, -1}};
        for (int[] t : wrong) {
            busy(named("worth", t), NO, x -> x.worth(t[0], t[1], t[2], t[3]));
        }
        busy("worth(0, 1, 10, 0): a QUARREL", -3, x -> x.worth(0, 1, 10, 0));
        busy("worth(0, 1, 10, 1): a QUARREL", -3, x -> x.worth(0, 1, 10, 1));
        busy("worth(4, 5, 15, 1): a QUARREL of others", -3, x -> x.worth(4, 5, 15, 1));
        full("no 31st PIECE", NO, x -> x.worth(0, 1, 1 << 30, 0));
        full("no 32nd PIECE", NO, x -> x.worth(0, 1, 1 << 31, 0));
    }

    /** "BAD: PIECES (beyond the first 12, too)." */
    private static void go() {
        for (int bits : new int[] {-1, 16, 31, 4096, LEAST, MOST}) {
            busy("go(" + bits + ")", -2, x -> x.go(bits));
        }
        for (int bits : new int[] {4096, 8191, 1 << 29, (1 << 30) - 1, 1 << 30, -1}) {
            full("go(" + bits + ")", -2, x -> x.go(bits));
        }
    }

    /** "BAD: no such SHEET; -11; BAD: its size isn't 6, a time; FULL." */
    private static void race() {
        for (int sheet : new int[] {-1, 4, LEAST, MOST}) {
            busy("race(" + sheet + ")", -2, x -> x.race(sheet));
            full("no such SHEET ahead of FULL", -2, x -> x.race(sheet));
        }
        busy("a missing SHEET", -11, x -> x.race(3));
        busy("twelve times", -2, x -> x.race(1));
        busy("seven times", -2, x -> x.race(2));
        full("-11 ahead of FULL", -11, x -> x.race(3));
        full("eight times ahead of FULL", -2, x -> x.race(0));
        full("FULL", -4, x -> x.race(1));
    }

    /** "NO: LANES (alike, too), part." */
    private static void lanes() {
        int[][] wrong = {{-1, 1, 0}, {6, 1, 0}, {LEAST, 1, 0}, {MOST, 1, 0}, {1, -1, 0}, {1, 6, 0},
            {1, LEAST, 0}, {1, MOST, 0}, {0, 0, 0}, {5, 5, 1}, {0, 1, -1}, {0, 1, 2},
            {0, 1, LEAST}, {0, 1, MOST}};
        for (int[] t : wrong) {
            busy(named("lanes", t), NO, x -> x.lanes(t[0], t[1], t[2]));
        }
    }

    /** "STATE: there is none." */
    private static void back() {
        EightOars x = new EightOars();
        String was = Whole.of(x);
        EightOars y = new EightOars();
        Due.is("no IMAGE", y.back(), -3);
        Due.holds("it changes nothing", Whole.of(y).equals(was));
    }

    /** "BAD." */
    private static void count() {
        for (int what : new int[] {-1, 9, LEAST, MOST}) {
            busy("count(" + what + ")", -2, x -> x.count(what));
        }
    }

    /** "BAD: no such SHEET, sort; n above 40; -14." */
    private static void sheet() {
        int[][] wrong = {{-1, 0, 6}, {4, 0, 6}, {LEAST, 0, 6}, {MOST, 0, 6}, {-1, -1, 6}, {4, -1, 6},
            {0, -2, 6}, {0, 3, 6}, {0, LEAST, 6}, {0, MOST, 6}, {0, 0, 41}, {0, 1, 41}, {0, 2, 41},
            {0, 0, MOST}, {4, 0, -1}, {-1, 0, -1}, {0, 3, -1}, {0, -2, -1}, {0, -2, 41}};
        for (int[] t : wrong) {
            busy(named("sheet", t), -2, x -> x.sheet(t[0], t[1], t[2]));
        }
        for (int sort = 0; sort < 3; sort++) {
            int one = sort;
            busy("sheet(0, " + sort + ", -1)", -14, x -> x.sheet(0, one, -1));
            busy("sheet(3, " + sort + ", least)", -14, x -> x.sheet(3, one, LEAST));
        }
    }

    /** "BAD: no such SHEET; -11; -12." */
    private static void cell() {
        int[][] wrong = {{-1, 0}, {4, 0}, {LEAST, 0}, {MOST, 0}, {-1, -1}, {4, 40}};
        for (int[] t : wrong) {
            busy(named("cell", t), -2, x -> x.cell(t[0], t[1], 9));
        }
        for (int i : new int[] {0, -1, 40, LEAST, MOST}) {
            busy("a missing SHEET, item " + i, -11, x -> x.cell(3, i, 9));
        }
        int[][] outside = {{0, -1}, {0, 6}, {1, 12}, {2, 7}, {2, 39}, {2, 40}, {2, LEAST}, {2, MOST}};
        for (int[] t : outside) {
            busy(named("cell", t), -12, x -> x.cell(t[0], t[1], 9));
        }
    }

    /** "BAD: no such SHEET; -11; -13: they are of unlike sorts; -12 (also with n below 0)." */
    private static void copy() {
        int[][] none = {{-1, 0, 0, 0, 1}, {4, 0, 0, 0, 1}, {0, 0, -1, 0, 1}, {0, 0, 4, 0, 1},
            {LEAST, 0, 0, 0, 1}, {0, 0, MOST, 0, 1}, {3, 0, 4, 0, 1}, {4, 0, 3, 0, 1},
            {0, -1, 4, 0, 1}, {-1, 0, 1, 0, -1}};
        for (int[] t : none) {
            busy(named("copy", t), -2, x -> x.copy(t[0], t[1], t[2], t[3], t[4]));
        }
        int[][] missing = {{3, 0, 0, 0, 1}, {0, 0, 3, 0, 1}, {3, 0, 3, 0, 0}, {3, 0, 0, 0, 0},
            {0, -1, 3, 0, 1}, {3, 0, 0, 9, 1}, {3, 0, 1, 0, -1}};
        for (int[] t : missing) {
            busy(named("copy", t), -11, x -> x.copy(t[0], t[1], t[2], t[3], t[4]));
        }
        int[][] unlike = {{0, 0, 1, 0, 1}, {1, 0, 0, 0, 1}, {0, 0, 2, 0, 1}, {2, 0, 0, 0, 1},
            {1, 0, 2, 0, 1}, {2, 0, 1, 0, 1}, {0, 0, 1, 0, 0}, {0, 0, 1, 0, -1}, {0, 9, 1, 0, 1},
            {0, 0, 1, 40, 1}, {0, -1, 2, 0, 1}};
        for (int[] t : unlike) {
            busy(named("copy", t), -13, x -> x.copy(t[0], t[1], t[2], t[3], t[4]));
        }
        int[][] outside = {{0, -1, 0, 0, 1}, {0, 0, 0, -1, 1}, {0, 6, 0, 0, 1}, {0, 0, 0, 6, 1},
            {0, 0, 0, 0, 7}, {0, 1, 0, 0, 6}, {0, 0, 0, 1, 6}, {0, 0, 0, 0, -1}, {0, 2, 0, 4, -1},
            {0, 7, 0, 0, 0}, {0, 0, 0, 7, 0}, {0, -1, 0, 0, 0}, {0, 0, 0, -1, 0},
            {0, MOST, 0, 0, 1}, {0, 1, 0, 0, MOST}, {0, MOST, 0, 0, MOST}, {0, 0, 0, MOST, MOST},
            {0, LEAST, 0, 0, 1}, {0, 0, 0, LEAST, 1}, {0, 0, 0, 0, LEAST}, {0, 6, 0, 0, LEAST}};
        for (int[] t : outside) {
            busy(named("copy", t), -12, x -> x.copy(t[0], t[1], t[2], t[3], t[4]));
        }
    }

    /** "BAD: no such SHEET, sort, n; -13; -11 (also with n 0); -12" */
    private static void pieces() {
        int[][] wrong = {{-1, 0, 0, 1}, {4, 0, 0, 1}, {LEAST, 0, 0, 1}, {MOST, 0, 0, 1},
            {0, -1, 0, 1}, {0, 3, 0, 1}, {0, LEAST, 0, 1}, {0, MOST, 0, 1}, {0, 0, 0, -1},
            {0, 0, 0, 11}, {0, 0, 0, LEAST}, {0, 0, 0, MOST}, {3, -1, 0, 0}, {3, 3, 0, 0},
            {3, 0, 0, -1}, {3, 0, 0, 11}, {0, 1, 0, 11}, {0, 0, -1, 11}};
        for (int[] t : wrong) {
            busy(named("pieces", t), -2, x -> x.pieces(t[0], t[1], t[2], t[3]));
        }
        int[][] unlike = {{0, 1, 0, 1}, {0, 2, 0, 1}, {1, 0, 0, 1}, {1, 2, 0, 1}, {2, 0, 0, 1},
            {2, 1, 0, 1}, {0, 1, 0, 0}, {0, 1, -1, 1}, {0, 1, 40, 10}};
        for (int[] t : unlike) {
            busy(named("pieces", t), -13, x -> x.pieces(t[0], t[1], t[2], t[3]));
        }
        int[][] missing = {{3, 0, 0, 1}, {3, 1, 0, 1}, {3, 2, 0, 1}, {3, 0, 0, 0}, {3, 1, 0, 0},
            {3, 2, 0, 0}, {3, 0, -1, 1}, {3, 0, MOST, 10}};
        for (int[] t : missing) {
            busy(named("pieces", t), -11, x -> x.pieces(t[0], t[1], t[2], t[3]));
        }
        int[][] outside = {{0, 0, -1, 1}, {0, 0, 3, 1}, {0, 0, 6, 1}, {0, 0, MOST, 1},
            {0, 0, MOST, 10}, {0, 0, MOST - 3, 2}, {0, 0, LEAST, 1}, {1, 1, 9, 1}, {1, 1, -4, 2},
            {2, 2, 4, 1}};
        for (int[] t : outside) {
            busy(named("pieces", t), -12, x -> x.pieces(t[0], t[1], t[2], t[3]));
        }
    }

    /** "-12: what stood ahead came", and no more than that. */
    private static void piecesInPart() {
        EightOars x = Whole.busy();
        Due.is("the second stands outside", x.pieces(0, 0, 0, 2), -12);
        EightOars y = Whole.busy();
        Due.is("the first alone", y.pieces(0, 0, 0, 1), 1);
        Due.holds("what stood ahead came", Whole.of(x).equals(Whole.of(y)));
        x = Whole.busy();
        Due.is("the fourth stands outside", x.pieces(1, 1, 0, 10), -12);
        y = Whole.busy();
        Due.is("two, and one of alike rowers", y.pieces(1, 1, 0, 3), 2);
        Due.holds("what stood ahead came", Whole.of(x).equals(Whole.of(y)));
        full("others are left out: no room", 0, z -> z.pieces(0, 0, 0, 2));
        full("-12 without room", -12, z -> z.pieces(0, 0, 0, 3));
    }

    /** "BAD: k; -11: no such STROKE; -13." */
    private static void taken() {
        int[][] wrong = {{0, 0, -1}, {0, 0, 6}, {0, 0, LEAST}, {0, 0, MOST}, {3, 0, 6}, {0, 3, 6},
            {0, -1, -1}};
        for (int[] t : wrong) {
            busy(named("taken", t), -2, x -> x.taken(t[0], t[1], t[2]));
        }
        int[][] none = {{-1, 0, 0}, {3, 0, 0}, {8, 0, 0}, {LEAST, 0, 0}, {MOST, 0, 0}, {0, -1, 0},
            {0, 3, 0}, {0, LEAST, 0}, {0, MOST, 0}, {0, 3, 5}, {0, 200, 0}};
        for (int[] t : none) {
            busy(named("taken", t), -11, x -> x.taken(t[0], t[1], t[2]));
        }
        busy("a STROKE for a START", -13, x -> x.taken(0, 0, 1));
        busy("a START for an EASY one", -13, x -> x.taken(0, 2, 5));
        full("taken(8, 0, 0)", -11, x -> x.taken(8, 0, 0));
    }
}
