import com.sun.management.ThreadMXBean;
import java.lang.management.ManagementFactory;

/** All 512 calls of a run live in one room: a new object is small, and calls make next to nothing. */
public final class RoomTest {
    private static final ThreadMXBean THREADS = (ThreadMXBean) ManagementFactory.getThreadMXBean();
    /** Of 7.3 million elements; one counted as 8 bytes, the longest. */
    private static final long OBJECT = 8L * 120_000;
    private static final long CALLS = 8L * 120_000;

    private static long made() {
        return THREADS.getThreadAllocatedBytes(Thread.currentThread().getId());
    }

    public static void main(String[] args) {
        long before = made();
        CartFloor x = new CartFloor(5, 4);
        long object = made() - before;
        x.lay(2, 1, 2);
        x.lay(4, 3, 2);
        x.shelf(2, 1);
        x.cart(0, 0, 0, 1);
        x.cart(0, 4, 0, 1);
        x.cart(1, 0, 3, 1);
        x.cart(2, 1, 1, 1);
        before = made();
        for (int day = 0; day < 40; day++) {
            x.errand(0, day % 5, 0, -1);
            x.errand(1, (day + 2) % 5, 0, -1);
            x.errand(2, day % 2 == 0 ? 4 : 2, day % 2 == 0 ? 3 : 1, 0);
            x.errand(3, 2, 2, -1);
            x.few(0, 1, -1);
            x.many();
            x.tell(0, 5);
            x.check(3);
            x.stop(0, 2);
            x.stop(1, 3);
            x.safe();
            x.dawn();
        }
        for (int k = 0; k < 24; k++) {
            x.stop(2, k);
        }
        int last = x.count(8);
        long calls = made() - before;
        System.out.println("a new object: " + object + " bytes, all 512 calls: " + calls + " bytes");
        if (last != 40) {
            System.out.println("the 512th call, count(8), answered " + last + ", due is 40");
            System.exit(1);
        }
        if (object > OBJECT || calls > CALLS) {
            System.out.println("that is too much");
            System.exit(1);
        }
    }
}
