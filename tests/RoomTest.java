import com.sun.management.ThreadMXBean;
import java.lang.management.ManagementFactory;

/** All calls of one object fit in the room that one run has, and no call takes long. */
public final class RoomTest {
    // 600,000 objects and arrays, and 7.3 million fields and elements, in bytes.
    private static final long ROOM = 600_000L * 16 + 7_300_000L * 8;

    private static long taken() {
        ThreadMXBean threads = (ThreadMXBean) ManagementFactory.getThreadMXBean();
        return threads.getThreadAllocatedBytes(Thread.currentThread().getId());
    }

    /** Cores that swell when they are simplified, and one that makes cells without an end. */
    private static void fill(SpinelessHall h) {
        int x = h.variable(0);
        int y = h.variable(1);
        int six = h.lambda(1, h.cons(y, h.cons(y, y)));
        int body = x;
        for (int i = 1; i < 20; i++) {
            body = h.cons(x, body);
        }
        h.define(0, h.lambda(0, h.apply(h.global(0), h.cons(x, x))));
        h.define(1, h.apply(h.global(0), h.nil()));
        for (int i = 2; i < 8; i++) {
            h.define(i, h.lambda(0, h.let(0, six, h.apply(h.global(i - 1), body), false)));
        }
    }

    private static void dearCalls(SpinelessHall h) {
        for (int round = 0; round < 35; round++) {
            Check.gives("run", SpinelessHall.TOO_FAR, () -> h.run(1, 1000, true));
            Check.gives("goOn", SpinelessHall.TOO_FAR, () -> h.goOn(1000));
            Check.gives("goOn", SpinelessHall.TOO_FAR, () -> h.goOn(999));
            Check.gives("goOn", SpinelessHall.TOO_FAR, () -> h.goOn(1000));
            Check.gives("steps", 3999, h::steps);
            Check.gives("SIMPLIFY", 6, () -> h.pass(SpinelessHall.SIMPLIFY));
            Check.gives("STRICT", 0, () -> h.pass(SpinelessHall.STRICT));
            Check.gives("size", 3 + 39 + 20 * 5, () -> h.size(7));
            Check.gives("needs", 0, () -> Check.bit(h.needs(7, 0)));
            Check.gives("run", SpinelessHall.FUNCTION, () -> h.run(7, 1, false));
            Check.gives("live", 0, h::live);
            Check.gives("reset", 8, h::reset);
        }
    }

    public static void main(String[] args) {
        long before = taken();
        SpinelessHall h = new SpinelessHall();
        long made = taken() - before;
        fill(h);
        long start = System.nanoTime();
        dearCalls(h);
        long all = taken() - before;
        long seconds = (System.nanoTime() - start) / 1_000_000_000L;
        System.out.println("RoomTest: " + made + " bytes for the object, " + all + " with its calls, " + seconds + " s");
        Check.same("the room is enough", all < ROOM, true);
        Check.same("the time is short", seconds < 60, true);
        Check.end("RoomTest");
    }
}
