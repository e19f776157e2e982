import com.sun.management.ThreadMXBean;
import java.lang.management.ManagementFactory;

/** A run's room: its dearest calls make no objects, so an object's own fields and rows are all that is counted. */
public final class RoomTest {
    private static final int CALLS = 512;
    private static final long MOST_BYTES_MADE = 4096, MOST_BYTES_CALLED = 4096;

    public static void main(String[] args) {
        ThreadMXBean bean = (ThreadMXBean) ManagementFactory.getThreadMXBean();
        long self = Thread.currentThread().getId();
        use(new CountOut());
        long start = bean.getThreadAllocatedBytes(self);
        CountOut x = new CountOut();
        long made = bean.getThreadAllocatedBytes(self);
        use(x);
        long called = bean.getThreadAllocatedBytes(self);
        boolean small = made - start <= MOST_BYTES_MADE && called - made <= MOST_BYTES_CALLED;
        System.out.println("an object takes " + (made - start) + " bytes, its calls " + (called - made)
                + (small ? "" : ": too much"));
        if (!small) {
            System.exit(1);
        }
    }

    private static void use(CountOut x) {
        int calls = 0;
        for (int i = 0; i < 17; i++) {
            x.letter("07,11,02;cctcsckc".charAt(i));
            calls++;
        }
        x.ring();
        x.image();
        for (int i = calls + 2; i + 7 < CALLS; i += 8) {
            x.first(i / 8 % 8);
            x.see(i / 8 % 8, i / 16 % 8);
            x.digest();
            x.rounds(60, i, 0);
            x.say(i % 3);
            x.game(2, 3, 0);
            x.likely(4, 0);
            x.restore();
        }
    }
}
