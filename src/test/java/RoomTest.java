import com.sun.management.ThreadMXBean;
import java.lang.management.ManagementFactory;

/**
 * The room: what an object and its calls make, in bytes. The bounds are far above what the class
 * needs, and far below what calls come to that make rows each time.
 */
public final class RoomTest {
    // a full object has taken more than a hundred of its 512 calls already
    private static final int CALLS = 352, MOST_AT_FIRST = 100_000, MOST_BY_CALLS = 50_000;
    private static final ThreadMXBean COUNTS = (ThreadMXBean) ManagementFactory.getThreadMXBean();

    public static void main(String[] args) {
        aNewObject();
        allCallsOfOne();
        textsMakeLittle();
        Due.end();
    }

    private static long made() {
        return COUNTS.getCurrentThreadAllocatedBytes();
    }

    private static void aNewObject() {
        new EightOars();
        long ahead = made();
        EightOars x = new EightOars();
        long bytes = made() - ahead;
        Due.is("no ROWER", x.count(0), 0);
        Due.holds("a new object makes " + bytes + " bytes", bytes < MOST_AT_FIRST);
    }

    private static EightOars crowded() {
        EightOars x = Whole.full();
        x.sheet(2, 2, 40);
        return x;
    }

    private static long call(EightOars x, int i) {
        switch (i % 32) {
            case 0: return x.change(7, 0);
            case 1: return x.spurts(60, 0, 1);
            case 2: return x.row(0, 4);
            case 3: return x.left(0, 3);
            case 4: return x.rown(3);
            case 5: return x.more(2, 17);
            case 6: return x.order(0);
            case 7: return x.worth(0, 1, (1 << 30) - 1, 0);
            case 8: return x.go(0xFFF);
            case 9: return x.lanes(0, 1, 0);
            case 10: return x.fair();
            case 11: return x.image();
            case 12: return x.back();
            case 13: return x.sheet(2, 2, 40);
            case 14: return x.cell(2, 39, i);
            case 15: return x.copy(2, 0, 2, 1, 39);
            case 16: return x.pieces(2, 2, 0, 10);
            case 17: return x.race(1);
            case 18: return x.text();
            case 19: return x.plan();
            case 20: return x.feed(8, i);
            case 21: return x.piece(0, 1, 5, 5);
            case 22: return x.rower(50, 50, 50, 50);
            case 23: return x.sit(i % 8, i % 16);
            case 24: return x.rig(i % 8, 1, 1 + i % 9);
            case 25: return x.water(0, 1 + i);
            case 26: return x.stroke(i % 6, i, 0, 0);
            case 27: return x.force(i % 6);
            case 28: return x.planned(0, 1);
            case 29: return x.count(i % 9);
            case 30: return x.taken(0, 2, 0);
            default: return x.rowerTold(i % 16, 2);
        }
    }

    private static long callsOf(EightOars x) {
        long ahead = made();
        for (int i = 0; i < CALLS; i++) {
            // the kinds of calls go round, and so do their numbers
            call(x, 33 * i);
        }
        return made() - ahead;
    }

    /** "An object is used for at most 512 calls": what they make together */
    private static void allCallsOfOne() {
        callsOf(crowded());
        long bytes = callsOf(crowded());
        Due.holds("calls of a full object make " + bytes + " bytes", bytes < MOST_BY_CALLS);
        bytes = callsOf(new EightOars());
        Due.holds("of a new object " + bytes + " bytes", bytes < MOST_BY_CALLS);
    }

    /** Texts with a FAULT can be read as often as there are calls. */
    private static void textsMakeLittle() {
        EightOars x = new EightOars();
        long ahead = made();
        for (int i = 0; i < CALLS / 7; i++) {
            Due.feed(x, "give (1+2) * 3;drag speed;;");
            x.text();
            Due.feed(x, "r1s");
            x.plan();
        }
        long bytes = made() - ahead;
        Due.holds("faults and plans make " + bytes + " bytes", bytes < MOST_BY_CALLS);
    }
}
