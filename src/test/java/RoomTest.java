import com.sun.management.ThreadMXBean;
import java.lang.management.ManagementFactory;

/**
 * All calls of one run live in one room of some 600,000 objects. An object takes 16 bytes at least, so a run
 * that takes less than a tenth of that in bytes stays far inside it, whatever it is made of.
 */
public final class RoomTest {
    private static final int CALLS = 512;
    private static final long ROOM = 600_000L * 16 / 10;
    private static final String TEXT = "materials 6;" + "station 5 9 50 30;".repeat(8) + "buyer a 5 2 9 0 0;"
        + "load 99 99 99 99 99 999;".repeat(18);

    public static void main(String[] args) {
        ThreadMXBean threads = (ThreadMXBean) ManagementFactory.getThreadMXBean();
        long self = Thread.currentThread().getId();
        for (int kind = 0; kind < 12; kind++) {
            RecyclingLine x = Checks.lineOf(TEXT);
            long before = threads.getThreadAllocatedBytes(self);
            for (int call = 0; call < CALLS; call++) {
                callOf(kind, x, call);
            }
            long taken = threads.getThreadAllocatedBytes(self) - before;
            Checks.due("calls of kind " + kind + " that take " + taken + " bytes are few enough", taken < ROOM, true);
        }
        long before = threads.getThreadAllocatedBytes(self);
        for (int call = 0; call < CALLS; call++) {
            new RecyclingLine();
        }
        long taken = threads.getThreadAllocatedBytes(self) - before;
        Checks.due("new objects that take " + taken + " bytes are few enough", taken < 10 * ROOM, true);
        Checks.finish();
    }

    private static void callOf(int kind, RecyclingLine x, int call) {
        switch (kind) {
            case 0: Checks.outcome(() -> x.load(0, 9)); break;
            case 1: x.set(0, 9); break;
            case 2: x.staff(0, 9); break;
            case 3: x.run(1); break;
            case 4: Checks.outcome(() -> x.sell(0, 0)); break;
            case 5: x.clean(0); break;
            case 6: x.undo(); break;
            case 7: x.outlook(20, 0); break;
            case 8: x.bestStaff(0, 10); break;
            case 9: x.emptied(); break;
            case 10: if (call % 37 == 0) { Checks.type(x, TEXT); } else { x.read(); } break;
            default: x.find(); x.purity(0); x.loss(); x.mass(20, 0); x.balance(1); break;
        }
    }
}
