import com.sun.management.ThreadMXBean;
import java.lang.management.ManagementFactory;

/** All calls of a run live in one room: the dearest of them make next to nothing. */
public final class RoomTest {
    private static final ThreadMXBean THREADS = (ThreadMXBean) ManagementFactory.getThreadMXBean();
    private static final int CALLS = 512;
    private static final String FOUR = "m10101010;p5,5,5,99;p6,5,5,99;p7,5,5,99;p8,5,5,99;b4,4,4,2,0,99";
    // a SHEET and its cells, a ROAD; a SHEET, a PLAN
    private static final int FILLED = 1 + FOUR.length() + 1 + 2;
    // far below the room of 7.3 million fields and elements
    private static final long MOST_BYTES = 400_000;

    public static void main(String[] args) {
        long before = now();
        RideTie x = filled();
        stays("an object with a ROAD and a PLAN", before);
        before = now();
        for (int i = FILLED; i < CALLS; i++) {
            x.road(1, 0, 1, 9);
        }
        stays("TEXTS", before);
        x = filled();
        before = now();
        for (int i = FILLED; i < CALLS; i++) {
            x.sheet(0, i % 3, 120);
        }
        stays("SHEETS", before);
        x = filled();
        before = now();
        for (int i = FILLED; i < CALLS - 1; i += 2) {
            x.lame(0, i / 2 % 4, i % 3);
            x.best(0, 0, RideTie.NONE, 0);
        }
        stays("BEST", before);
        x = filled();
        before = now();
        for (int i = FILLED; i < CALLS - 2; i += 3) {
            x.outcome(0, i % 5);
            x.even(0, 0);
            x.share(0, 0, 0);
        }
        stays("PLANS and EVEN", before);
        Checks.end();
    }

    private static RideTie filled() {
        RideTie x = new RideTie();
        Checks.due("road", Checks.read(x, FOUR), 0);
        Checks.due("plan", Checks.draw(x, 0, 0, 0, 0, new int[16]), 0);
        return x;
    }

    private static long now() {
        return THREADS.getThreadAllocatedBytes(Thread.currentThread().getId());
    }

    private static void stays(String what, long before) {
        long bytes = now() - before;
        Checks.hold(what + " make " + bytes + " bytes", bytes < MOST_BYTES);
    }
}
