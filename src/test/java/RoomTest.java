import com.sun.management.ThreadMXBean;
import java.lang.management.ManagementFactory;

/** All calls of a run share one room, so that 512 calls of the dearest kinds must not make more than a few trees. */
public final class RoomTest {
    /** Some 21,000 elements are in use at most; most of them are ints. */
    private static final long BYTES = 160_000;

    public static void main(String[] args) {
        ThreadMXBean threads = (ThreadMXBean) ManagementFactory.getThreadMXBean();
        long used = 0;
        // The first runs load classes.
        for (int round = 0; round < 5; round++) {
            long before = threads.getCurrentThreadAllocatedBytes();
            run();
            used = threads.getCurrentThreadAllocatedBytes() - before;
        }
        System.out.println("RoomTest: " + used + " bytes for 512 calls");
        if (used <= 0 || used > BYTES) {
            System.exit(1);
        }
    }

    private static void run() {
        CloneOutliner x = new CloneOutliner();
        int calls = 0;
        for (int item = 1; item <= 60; item++) {
            x.append('n');
            x.add((item - 1) / 12, 0);
            calls += 2;
        }
        while (calls + 11 <= 512) {
            x.snapshot();
            x.moveBlock(0, 0, 11, 0, 0);
            x.append('~' << 24 | 'n' << 16);
            x.filter();
            x.path(59, 2);
            x.indent(59);
            x.undo();
            x.detach(0, 11);
            x.isConsistent();
            x.outline(7);
            x.restore();
            calls += 11;
        }
    }
}
