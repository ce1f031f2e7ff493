import java.lang.management.ManagementFactory;

/**
 * All calls of a run live in one room: what an object takes is made with it, and no call makes
 * more. Also: the dearest calls, 512 times, end soon.
 */
public final class RoomTest {
    private static final long OBJECT_MOST = 64 * 1024;
    /** Far below one small object a call. */
    private static final long CALLS_MOST = 2048;

    private RoomTest() {
    }

    public static void main(String[] args) {
        com.sun.management.ThreadMXBean room = (com.sun.management.ThreadMXBean) ManagementFactory.getThreadMXBean();
        Check check = new Check();
        check.part("room");
        allCalls(filled());  // so that all classes are there before anything is counted

        long before = room.getCurrentThreadAllocatedBytes();
        RainCells cells = new RainCells();
        long made = room.getCurrentThreadAllocatedBytes() - before;
        check.holds("an object takes " + made + " bytes", cells.count(0) == 0 && made <= OBJECT_MOST);

        RainCells full = filled();
        before = room.getCurrentThreadAllocatedBytes();
        int sum = 0;
        for (int i = 0; i < 20; i++) {
            sum += allCalls(full);
        }
        long taken = room.getCurrentThreadAllocatedBytes() - before;
        check.holds("480 calls take " + taken + " bytes", taken <= CALLS_MOST);
        check.holds("no answer", sum != 0);
        check.end("RoomTest");
    }

    /** Eight GAUGES, and as many different sets as there are DAYS. */
    private static RainCells filled() {
        RainCells x = new RainCells();
        for (int g = 0; g < 8; g++) {
            x.gauge(2 * g, 15 - g);
            for (int day = 0; day < 64; day++) {
                if (((day * 4 + 3) & (1 << g)) != 0) {
                    x.rain(g, day, day * g);
                }
            }
        }
        return x;
    }

    private static int allCalls(RainCells x) {
        int sum = x.row(3, 2, 14) + x.gauge(1, 1) + x.move(2, 4, 13) + x.reach(3, 9) + x.fail(4, 0, 63, 0) + x.rain(5, 5, 5);
        sum += x.of(0, 4) + x.reading(0, 1) + x.working(63) + x.owner(63, 4, 4) + x.cell(63, 1, 2) + x.border(63, 1, 2);
        sum += x.neighbours(63, 1) + x.mean(63, 0) + x.total(0, 63, 0) + x.spread(63) + x.next(63, 2) + x.shared(63, 1, 2);
        sum += x.estimate(63, 1, 0) + x.doubt(63, 3) + x.kept(2) + x.image(1) + x.restore(1) + x.count(3);
        return sum;
    }
}
