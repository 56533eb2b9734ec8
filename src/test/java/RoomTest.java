import java.lang.management.ManagementFactory;

/** The dearest calls of a run make no objects: what the thread allocates is looked at. */
public final class RoomTest {
    private static final int MOST_BYTES_A_RUN = 100_000;

    private static long allocated() {
        com.sun.management.ThreadMXBean bean = (com.sun.management.ThreadMXBean) ManagementFactory.getThreadMXBean();
        return bean.getCurrentThreadAllocatedBytes();
    }

    private static int dearRun() {
        PostsFilled x = new PostsFilled();
        for (int q = 0; q < 6; q++) {
            x.post(1, 40 + q);
        }
        for (int p = 0; p < 7; p++) {
            x.person(p % 6, 100 * (p % 6) + 45);
        }
        int sum = 0;
        for (int n = 0; n < 60; n++) {
            sum += x.lessons(n % 3, 2) + x.worst(n % 8, 1) + x.worst(n % 8, 0) + (int) x.sure(0) + x.ring()
                    + x.fill(n, -1) + x.feed(8, 0x6c6c6577L) + x.text();
        }
        return sum;
    }

    public static void main(String[] args) {
        int sum = dearRun();
        long before = allocated();
        sum ^= dearRun();
        long bytes = allocated() - before;
        System.out.println("RoomTest: a run of 493 calls made " + bytes + " bytes (runs alike: " + (sum == 0) + ")");
        if (sum != 0 || bytes > MOST_BYTES_A_RUN) {
            System.exit(1);
        }
    }
}
