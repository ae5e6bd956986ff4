import com.sun.management.ThreadMXBean;
import java.lang.management.ManagementFactory;

/** All calls of a run share one room: a new object takes little of it, a call nothing. */
public final class RoomTest {
    private static final String TEXT = "n6;e0 1 1;e0 2 2;e0 3 3;e0 4 4;e0 5 5;e1 2 6;e1 3 7;e1 4 8;e1 5 9;";
    private static final long MOST_OF_AN_OBJECT = 20_000;
    private static final ThreadMXBean BEAN = (ThreadMXBean) ManagementFactory.getThreadMXBean();

    public static void main(String[] args) {
        Dues dues = new Dues();
        makes();
        callsAll(new ChanceNets());
        long made = makes();
        dues.holds("an object takes " + made + " bytes, " + MOST_OF_AN_OBJECT + " at most",
            made <= MOST_OF_AN_OBJECT);
        ChanceNets x = new ChanceNets();
        long before = BEAN.getCurrentThreadAllocatedBytes();
        callsAll(x);
        long taken = BEAN.getCurrentThreadAllocatedBytes() - before;
        dues.due("bytes that all calls take", taken, 0);
        dues.end();
    }

    private static long makes() {
        long before = BEAN.getCurrentThreadAllocatedBytes();
        ChanceNets x = new ChanceNets();
        long made = BEAN.getCurrentThreadAllocatedBytes() - before;
        return x.count(0) == 2 ? made : Long.MAX_VALUE;
    }

    private static long callsAll(ChanceNets x) {
        long sum = 0;
        for (int i = 0; i < TEXT.length(); i++) {
            sum += x.type(TEXT.charAt(i));
        }
        sum += x.net() + x.type('y') + x.net() + x.clear();
        sum += x.lays(2, 3, 1) + x.lays(2, 4, 1) + x.widens(0, 9) + x.cuts(1) + x.undo() + x.keep(0);
        for (int i = 0; i < 14; i++) {
            sum += x.widens(0, i % 2 + 1);
        }
        sum += x.sees(1) + x.sees(2) + x.unseen() + x.forget() + x.line(0, 0) + x.width(0, 1);
        sum += x.hitting(0, 5, 0) + x.between(0, 5, 1, 1) + x.ahead(1, 2, 3, 0) + x.walks(0, 6, 2);
        sum += x.trees() + x.share(0, 0) + x.rank(3) + x.reduced(0, 1, 1) + x.worst(0, 1) + x.odds(3, 0);
        return sum + x.back(0) + x.count(3);
    }
}
