import com.sun.management.ThreadMXBean;
import java.lang.management.ManagementFactory;
import java.util.Random;

/** How much the dearest runs of 512 calls make: all calls of one run live in one room of 7.3 million elements. */
public final class RoomTest {
    // Of eight bytes and less an element; a run makes some 30,000 elements at most, whatever it calls.
    private static final long LIMIT = 8L * 60000;

    private static final ThreadMXBean THREADS = (ThreadMXBean) ManagementFactory.getThreadMXBean();

    public static void main(String[] args) {
        Check check = new Check();
        run(4, 1);
        long before = made();
        run(4, 2);
        check.holds("four names: " + (made() - before), made() - before < LIMIT);
        before = made();
        run(5, 3);
        check.holds("five names: " + (made() - before), made() - before < LIMIT);
        before = made();
        for (int i = 0; i < 512; i++) new StructureSearch();
        check.holds("512 objects: " + (made() - before), made() - before < 512 * 8L * 6000);
        check.end();
    }

    private static long made() {
        return THREADS.getThreadAllocatedBytes(Thread.currentThread().getId());
    }

    private static void run(int names, int seed) {
        Random random = new Random(seed);
        StructureSearch x = new StructureSearch();
        for (int i = 0; i < names; i++) x.name(3);
        for (int calls = names; calls < Made.MOST_CALLS; calls++) {
            switch (calls % 8) {
                case 0 -> x.drop(random.nextInt(16));
                case 1, 2 -> x.row(random.nextInt(3), random.nextInt(3), random.nextInt(3), random.nextInt(3), random.nextInt(3));
                case 3 -> x.shareSize(0, 1, 0);
                case 4 -> x.best();
                case 5 -> x.climb(0, 30);
                case 6 -> x.kin(6, 0);
                default -> x.test(0, 1, -1, 0, 0);
            }
        }
    }
}
