import com.sun.management.ThreadMXBean;
import java.lang.management.ManagementFactory;

/** All calls of a run share one room: what a new object and 512 of the dearest calls allocate stays far below it. */
public final class RoomTest {
    private static final long MOST_BYTES_OF_A_RUN = 4_000_000;
    private static final long MOST_BYTES_OF_AN_OBJECT = 12_000;

    public static void main(String[] args) {
        Check check = new Check();
        dearestRun();
        check.due("a new object is small", bytesOfAnObject() <= MOST_BYTES_OF_AN_OBJECT, true);
        long before = allocated();
        dearestRun();
        long bytes = allocated() - before;
        System.out.println("a new object: " + bytesOfAnObject() + " bytes; the dearest run: " + bytes);
        check.due("the dearest run is small", bytes <= MOST_BYTES_OF_A_RUN, true);
        check.end();
    }

    private static long allocated() {
        ThreadMXBean bean = (ThreadMXBean) ManagementFactory.getThreadMXBean();
        return bean.getThreadAllocatedBytes(Thread.currentThread().getId());
    }

    private static long bytesOfAnObject() {
        long before = allocated();
        PlanFractions x = new PlanFractions();
        long bytes = allocated() - before;
        return x.count(0) == 0 ? bytes : -1;
    }

    /** Eliminates in ROWS of ten PLACES with long NUMBERS, as often as an object may be called. */
    private static void dearestRun() {
        PlanFractions x = new PlanFractions();
        int a = x.value(Long.MAX_VALUE, 3), b = x.value(5, Long.MAX_VALUE - 1);
        int square = x.times(a, b), cube = x.times(square, b);
        int row = x.row(10), by = x.row(10);
        for (int k = 0; k < 10; k++) {
            x.put(row, k, k % 2 == 0 ? square : cube);
            x.put(by, k, k % 2 == 0 ? cube : square);
        }
        int calls = 26;
        for (; calls < 510; calls += 2) {
            if (x.eliminate(row, by, calls % 10) < 0) {
                x.eliminate(by, row, calls % 10);
            }
            x.put(row, calls % 10, calls % 4 == 0 ? square : a);
        }
    }
}
