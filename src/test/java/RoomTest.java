import com.sun.management.ThreadMXBean;
import java.lang.management.ManagementFactory;

/**
 * Nothing that a run makes is given back: 512 objects, or 512 of the calls that make most, must
 * stay far below 7.3 million fields and elements. Nearly all of these are ints, of four bytes; half
 * of the room is left for what is smaller.
 */
public final class RoomTest {
    private static final int NONE = -9;
    private static final long ROOM = 7300000L * 4 / 2;

    private static final ThreadMXBean BEAN = (ThreadMXBean) ManagementFactory.getThreadMXBean();

    public static void main(String[] args) {
        long start = taken();
        manyObjects();
        long objects = taken() - start;
        start = taken();
        manyRuns();
        long runs = taken() - start;
        start = taken();
        manyTotals();
        long totals = taken() - start;
        System.out.println("bytes: " + objects + " by objects, " + runs + " by runs, " + totals + " by totals");
        Due.holds("many objects", objects < ROOM);
        Due.holds("many runs", runs < ROOM);
        Due.holds("many totals", totals < ROOM);
        Due.finish();
    }

    private static long taken() {
        return BEAN.getThreadAllocatedBytes(Thread.currentThread().getId());
    }

    private static void manyObjects() {
        for (int i = 0; i < 512; i++) {
            SmokeLedger x = new SmokeLedger();
            x.issue(0, 20000);
        }
    }

    private static void manyRuns() {
        SmokeLedger x = new SmokeLedger();
        x.unit();
        x.issue(0, 20000);
        for (int i = 1; i <= 510; i++) {
            x.move(i * 30, 1, 1);
        }
    }

    private static void manyTotals() {
        SmokeLedger x = new SmokeLedger();
        x.factor(0, 0, 1, 1);
        for (int i = 0; i < 200; i++) {
            x.row(0, 0, 1, i, NONE);
        }
        for (int i = 0; i < 311; i++) {
            x.onPath(1, 0, 9, 50);
        }
    }
}
