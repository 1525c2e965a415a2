import java.lang.management.ManagementFactory;

/** A run of 512 calls fits many times into the room: calls make next to nothing. */
public final class RoomTest {
    private static final int CALLS = 512;
    private static final long MOST_BYTES = 64 * 1024;

    public static void main(String[] args) {
        Check check = new Check("RoomTest");
        com.sun.management.ThreadMXBean threads = (com.sun.management.ThreadMXBean) ManagementFactory.getThreadMXBean();
        long id = Thread.currentThread().getId();
        threads.getThreadAllocatedBytes(id);
        String twelve = "Aa=123456 Ab=123457 Ac=123458 Ad=1 Ae=2 Af=3 Ba=4 Bb=5 Bc=6 Ca=777 Cb=888 Cc=999";
        MovedFolders x = Check.trees(twelve, "", "");
        x.copy(1);
        x.copy(2);
        work(x);
        long before = threads.getThreadAllocatedBytes(id);
        int sum = work(x);
        long made = threads.getThreadAllocatedBytes(id) - before;
        check.due("calls were made (" + sum + ")", sum == Integer.MIN_VALUE ? 1 : 0, 0);
        check.due("bytes made: " + made, made <= MOST_BYTES ? 0 : 1, 0);
        check.end();
    }

    private static int work(MovedFolders x) {
        int sum = 0;
        for (int k = 0; k < CALLS / 8; k++) {
            sum += x.limit(1 + k % 100);
            sum += x.entry(k % 40, k % 4);
            sum += x.exchange();
            sum += x.moved(1 + k % 2, 100, k % 2);
            sum += x.image(k % 2);
            sum += x.told(41);
            sum += x.restore(k % 2);
            sum += x.clash(-1, 0);
        }
        return sum;
    }
}
