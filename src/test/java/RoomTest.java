import com.sun.management.ThreadMXBean;
import java.lang.management.ManagementFactory;

/**
 * All calls of one run live in one room of 600,000 objects and 7.3 million fields and elements: a run of 512 calls
 * must leave nearly nothing there, and an object must be small.
 */
public final class RoomTest {
    private static final int CALLS = 512;
    private static final int OBJECTS = 1000;
    private static final long MOST_BYTES_OF_AN_OBJECT = 16_000;
    private static final long MOST_BYTES_OF_A_RUN = 200_000;

    private static final ThreadMXBean THREADS = (ThreadMXBean) ManagementFactory.getThreadMXBean();
    private static ChangeUntangler kept;
    private static long sum;

    public static void main(String[] args) {
        make();
        long before = THREADS.getCurrentThreadAllocatedBytes();
        for (int k = 0; k < OBJECTS; k++) {
            make();
        }
        long bytes = (THREADS.getCurrentThreadAllocatedBytes() - before) / OBJECTS;
        Check.same("an object of " + bytes + " bytes is small", true, bytes < MOST_BYTES_OF_AN_OBJECT);

        fill();
        run();
        before = THREADS.getCurrentThreadAllocatedBytes();
        run();
        bytes = THREADS.getCurrentThreadAllocatedBytes() - before;
        Check.same("a run of " + bytes + " bytes is small", true, bytes < MOST_BYTES_OF_A_RUN);
        Check.same("it has answered", true, sum != 0);
        Check.end();
    }

    private static void make() {
        kept = new ChangeUntangler();
    }

    private static void fill() {
        for (int k = 0; k < 14; k++) {
            kept.addPiece(k % 10, 10 * k, k, k);
            kept.setNames(k, 0, 1 << k);
            kept.setNames(k, 2, 1 << (k + 5) % 16);
        }
        kept.setThreshold(16);
        for (int k = 0; k < 5; k++) {
            kept.say(k, k + 9, 1);
        }
    }

    private static void run() {
        for (int k = 0; k < CALLS / 4; k++) {
            kept.setName(k % 16, k % 3 == 0, k % 10);
            kept.setPurpose(k % 14, k % 10);
            sum += kept.best(0) + kept.leastBreakage();
            sum += kept.digest();
        }
    }
}
