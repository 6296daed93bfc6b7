import com.sun.management.ThreadMXBean;
import java.lang.management.ManagementFactory;

/** All calls of one run live in one room: a new object is small, and only text makes anything behind that. */
public final class RoomTest {
    private static final long NEW_OBJECT = 16_000;
    private static final long FIVE_HUNDRED_CALLS = 60_000;
    private static final ThreadMXBean MACHINE = (ThreadMXBean) ManagementFactory.getThreadMXBean();

    public static void main(String[] args) {
        calls(fullHouse());
        new ReplayHouse();
        long before = made();
        ReplayHouse x = new ReplayHouse();
        isBelow("a new object", made() - before, NEW_OBJECT);
        x = fullHouse();
        before = made();
        calls(x);
        isBelow("500 calls", made() - before, FIVE_HUNDRED_CALLS);
        Check.close("RoomTest");
    }

    private static long made() {
        return MACHINE.getThreadAllocatedBytes(Thread.currentThread().getId());
    }

    private static void isBelow(String what, long bytes, long bound) {
        Check.same(what + " made " + bytes + " bytes: below " + bound, bytes < bound, true);
    }

    /** Thirty asks of long texts, the last of which needs all of the ten ahead of it. */
    private static ReplayHouse fullHouse() {
        ReplayHouse x = new ReplayHouse();
        Check.tellBoth(x, 0, "put 0 get 0+1;" + "put a b+get a*3-get(a+1);".repeat(14) + "say 1;say id;");
        Check.set(x, 0, 1, "say 0;");
        Check.set(x, 1, 1, "say 28<get 0;");
        for (int i = 0; i < 29; i++) {
            x.ask(0, 1 + i % 5, i, i);
        }
        x.ask(1, 0, 0, 99);
        return x;
    }

    private static void calls(ReplayHouse x) {
        for (int i = 0; i < 25; i++) {
            x.begin(6, i);
            Check.same("small", x.small(29), 10);
            for (int k = 0; k < 5; k++) {
                x.smallest(29, k);
            }
            x.keep(3, i);
            x.learn();
            x.noise(0, 1, false);
            x.caused(5, 4, i % 8);
            x.shapes();
            x.shape(0, 2);
            x.free(i);
            x.touch(0, i);
            x.lag(0, 1, 2);
            x.never(1, 0);
            x.differs(29);
            x.field(1, i, 1);
            x.end(0, 1);
        }
    }
}
