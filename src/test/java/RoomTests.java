import com.sun.management.ThreadMXBean;
import java.lang.management.ManagementFactory;

/** All calls of one run live in one room: what 490 of the dearest calls make stays far below it. */
public final class RoomTests {
    /** A tenth of 7.3 million elements of 4 bytes. */
    private static final long MOST_BYTES = 2900000;
    /** With those that fill an object no more than the 512 that it is used for. */
    private static final int CALLS = 490;

    private interface Call {
        long on(DoubledBridge x, int i);
    }

    private static int wrong = 0;

    public static void main(String[] args) {
        String clause = "bridge if 1<2 and not(day=1) dear 1;";
        Call[] dearest = {
            (x, i) -> x.bridge(5, 1, 1, 1),
            (x, i) -> x.mend(i % 9, i % 5 + 1),
            (x, i) -> x.law(),
            (x, i) -> (i & 7) == 7 ? x.law() : x.feed(0x3c31206669206767L, 8),
            (x, i) -> x.back(i % 9, 500, 6, 0),
            (x, i) -> x.order(700, 511, i % 9),
            (x, i) -> x.by(700, 1000000000, i % 12),
            (x, i) -> x.devil(i % 9, 500, 20),
            (x, i) -> x.worth(i % 9, 9999, 50, 4),
            (x, i) -> x.fits(4, 0),
            (x, i) -> x.liar(2),
            (x, i) -> x.prove(i % 9, 700, 20),
            (x, i) -> x.sheet(0, 3, 40),
            (x, i) -> x.shelf(0, i % 2, 0),
            (x, i) -> x.act(0, 3, i),
            (x, i) -> x.keep(),
            (x, i) -> x.again(),
        };
        ThreadMXBean threads = (ThreadMXBean) ManagementFactory.getThreadMXBean();
        for (int round = 0; round < 2; round++) {
            for (int c = 0; c < dearest.length; c++) {
                long ahead = threads.getThreadAllocatedBytes(Thread.currentThread().getId());
                DoubledBridge x = filled(clause);
                for (int i = 0; i < CALLS; i++) {
                    dearest[c].on(x, i);
                }
                long made = threads.getThreadAllocatedBytes(Thread.currentThread().getId()) - ahead;
                if (made > MOST_BYTES) {
                    wrong++;
                    System.out.println("call " + c + ": " + CALLS + " of them made " + made + " bytes");
                }
            }
        }
        System.out.println(dearest.length + " calls, " + wrong + " of them too dear");
        if (wrong != 0) {
            System.exit(1);
        }
    }

    private static DoubledBridge filled(String text) {
        DoubledBridge x = new DoubledBridge();
        for (int b = 0; b < 9; b++) {
            x.bridge(b % 5 + 1, 2, 9 * b, b % 7);
        }
        Texts.law(x, text);
        x.tale(10, 12);
        x.tale(20, 33);
        x.keep();
        return x;
    }
}
