import com.sun.management.ThreadMXBean;
import java.lang.management.ManagementFactory;

/** All calls of a run live in one room of some 600,000 objects: an object and its dearest calls take little of it. */
public final class RoomTest {
    private static final int MOST_BYTES = 1 << 20;
    private static final Check c = new Check("RoomTest");

    public static void main(String[] args) {
        run(new GallopingRing());
        long before = allocated();
        GallopingRing x = new GallopingRing();
        long made = allocated();
        run(x);
        long after = allocated();
        c.holds("an object is small: " + (made - before) + " bytes", made - before < MOST_BYTES);
        c.holds("so is what 512 calls make: " + (after - made) + " bytes", after - made < MOST_BYTES);
        c.finish();
    }

    private static long allocated() {
        ThreadMXBean threads = (ThreadMXBean) ManagementFactory.getThreadMXBean();
        return threads.getThreadAllocatedBytes(Thread.currentThread().getId());
    }

    private static void run(GallopingRing x) {
        for (int p = 0; p < 12; p++) {
            x.horse(p, 100 + p, p);
        }
        for (int f = 0; f < 8; f++) {
            x.fair(10 * f, 10 * f + 3, 100 + f);
        }
        for (int i = 0; i < 50; i++) {
            x.group(3, 10 + i, 20 + i, 30 + i);
            x.come(20 + i);
            x.next();
            x.turn();
            x.earns();
            x.round(7);
            x.swaps();
            x.digest();
            x.best(20);
        }
    }
}
