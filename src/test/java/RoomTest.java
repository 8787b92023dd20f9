import com.sun.management.ThreadMXBean;
import java.lang.management.ManagementFactory;
import java.math.BigInteger;

/** All calls of a run share one room: what a new object and 512 of the dearest calls allocate stays far below it. */
public final class RoomTest extends Bench {
    private static final long MOST_BYTES_OF_A_RUN = 4_000_000;
    private static final long MOST_BYTES_OF_AN_OBJECT = 12_000;
    private static final int DEAREST_CALLS = 380;

    public static void main(String[] args) {
        dearestRun();
        check.due("a new object is small", bytesOfAnObject() <= MOST_BYTES_OF_AN_OBJECT, true);
        long before = allocated();
        dearestRun();
        long bytes = allocated() - before;
        System.out.println("a new object: " + bytesOfAnObject() + " bytes; the dearest run: " + bytes);
        check.due("the dearest run is small", bytes <= MOST_BYTES_OF_A_RUN, true);
        check.end();
    }

    private static long allocated() {
        ThreadMXBean bean = (ThreadMXBean) ManagementFactory.getThreadMXBean();
        return bean.getThreadAllocatedBytes(Thread.currentThread().getId());
    }

    private static long bytesOfAnObject() {
        long before = allocated();
        PlanFractions x = new PlanFractions();
        long bytes = allocated() - before;
        return x.count(0) == 0 ? bytes : -1;
    }

    /**
     * Eliminates in ROWS of ten PLACES whose NUMBERS have some 511 bits above and below, as often as an object may be
     * called: twenty such NUMBERS are made each time, and the last one is WIDE, so that the ROW stays as it was.
     */
    private static void dearestRun() {
        PlanFractions x = new PlanFractions();
        BigInteger below = two(510).subtract(BigInteger.ONE);
        int once = number(x, ratio(two(510).add(BigInteger.ONE), below));
        int twice = x.add(once, once), thrice = x.add(twice, once);
        int row = rowBut(x, MOST_PLACES, thrice, 0, twice), by = rowBut(x, MOST_PLACES, once, MOST_PLACES - 1, x.value(-1, 1));
        x.put(row, MOST_PLACES - 1, big(x, TOP));
        int wide = 0;
        for (int calls = 0; calls < DEAREST_CALLS; calls++) {
            wide += x.eliminate(row, by, 0) == WIDE ? 1 : 0;
        }
        check.due("each call works through all PLACES", wide, DEAREST_CALLS);
    }
}
