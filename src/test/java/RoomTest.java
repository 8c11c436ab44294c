import java.lang.management.ManagementFactory;

/** No call makes an object, and one whole object stays far below the room. */
public final class RoomTest {
    private static final String BUSY = "r0 20;".repeat(20);

    private static com.sun.management.ThreadMXBean bean;
    private static long sink;

    public static void main(String[] args) {
        bean = (com.sun.management.ThreadMXBean) ManagementFactory.getThreadMXBean();
        for (int i = 0; i < 3; i++) {
            made();
            busy(new CounterDeals());
        }
        Due.holds("a new object takes " + made() + " bytes, 64 KiB at most", made() <= 65536);
        CounterDeals x = new CounterDeals();
        long before = bean.getCurrentThreadAllocatedBytes();
        busy(x);
        long bytes = bean.getCurrentThreadAllocatedBytes() - before;
        Due.holds("512 calls make no object, but took " + bytes + " bytes", bytes < 1024);
        Due.end();
        if (sink == 1) {
            System.out.println(sink);
        }
    }

    private static long made() {
        long before = bean.getCurrentThreadAllocatedBytes();
        sink += new CounterDeals().hashCode();
        return bean.getCurrentThreadAllocatedBytes() - before;
    }

    /** The dearest calls: many SLICES with SAMPLES, STATES, and digests. */
    private static void busy(CounterDeals x) {
        x.counters(4);
        for (int k = 0; k < 8; k++) {
            x.rates(0, k, 99);
        }
        for (int g = 0; g < 6; g++) {
            x.group(0, 1 + g % 5, g % 2, 1, g);
            x.periods(g, 30);
            x.forks(g % 2);
        }
        for (int i = 0; i < BUSY.length(); i++) {
            x.type(BUSY.charAt(i));
        }
        for (int i = 0; i < 90; i++) {
            sink += x.does() + x.digest() + x.back() + x.fit(63);
        }
    }
}
