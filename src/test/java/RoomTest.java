import com.sun.management.ThreadMXBean;
import java.lang.management.ManagementFactory;

/**
 * All calls of one run live in one room of 600,000 objects and 7.3 million fields and elements: a run that makes an
 * object and uses it for 512 calls, or makes 512 objects, must fit in.
 */
public final class RoomTest {
    private static final int CALLS = 512;
    /** Taken as if a field had four bytes, and an object nothing else. */
    private static final long MOST_BYTES_OF_A_RUN = 4 * 7_300_000;

    private static final ThreadMXBean THREADS = (ThreadMXBean) ManagementFactory.getThreadMXBean();
    private static ChangeUntangler kept;
    private static long sum;

    public static void main(String[] args) {
        // the first time the machine makes things of its own
        makeMany();
        run();
        long before = THREADS.getCurrentThreadAllocatedBytes();
        makeMany();
        long bytes = THREADS.getCurrentThreadAllocatedBytes() - before;
        Check.same("a run of objects, " + bytes + " bytes, fits in", true, bytes < MOST_BYTES_OF_A_RUN);

        before = THREADS.getCurrentThreadAllocatedBytes();
        run();
        bytes = THREADS.getCurrentThreadAllocatedBytes() - before;
        Check.same("a run of calls, " + bytes + " bytes, fits in", true, bytes < MOST_BYTES_OF_A_RUN);
        Check.same("it has answered", true, sum != 0);
        Check.end();
    }

    private static void makeMany() {
        for (int k = 0; k < CALLS; k++) {
            make();
        }
    }

    private static void make() {
        kept = new ChangeUntangler();
    }

    /** 48 calls. */
    private static void fill() {
        for (int k = 0; k < 14; k++) {
            kept.addPiece(k % 10, 10 * k, k, k);
            kept.setNames(k, 0, 1 << k);
            kept.setNames(k, 2, 1 << (k + 5) % 16);
        }
        kept.setThreshold(16);
        for (int k = 0; k < 5; k++) {
            kept.say(k, k + 9, 1);
        }
    }

    private static void run() {
        make();
        fill();
        for (int k = 0; k < (CALLS - 48) / 5; k++) {
            kept.setName(k % 16, k % 3 == 0, k % 10);
            kept.setPurpose(k % 14, k % 10);
            sum += kept.best(0) + kept.leastBreakage();
            sum += kept.digest();
        }
    }
}
