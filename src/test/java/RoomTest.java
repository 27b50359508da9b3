import java.lang.management.ManagementFactory;
import java.util.Random;

/** All calls live in one room: the calls make nothing, and a new object makes little. */
public final class RoomTest {
    private static final int CALLS = 512;

    public static void main(String[] args) {
        Checks checks = new Checks();
        checks.test("calls make no objects", RoomTest::calls);
        checks.end();
    }

    private static void calls(Checks c) {
        com.sun.management.ThreadMXBean room = (com.sun.management.ThreadMXBean) ManagementFactory.getThreadMXBean();
        if (!room.isThreadAllocatedMemorySupported()) {
            return;
        }
        for (int run = 0; run < 20; run++) {
            Random lot = new Random(run);
            int[] which = new int[CALLS];
            int[][] arguments = new int[CALLS][];
            for (int i = 0; i < CALLS; i++) {
                which[i] = lot.nextInt(Calls.NAMES.length);
                arguments[i] = Calls.arguments(lot, which[i], 6, 10);
            }
            WeighedInBooks x = Checks.town("p05000;p04900;p00000;p09210;p08899;p01110;la05dh;",
                "b059a;b150b;b251c;b352d;b453e;b554f;b655g;h9g;b759h;b039i;b149zzzz;h0a;h0zzzz;");
            long before = room.getCurrentThreadAllocatedBytes();
            for (int i = 0; i < CALLS; i++) {
                Calls.answer(x, which[i], arguments[i]);
            }
            long made = room.getCurrentThreadAllocatedBytes() - before;
            long start = room.getCurrentThreadAllocatedBytes();
            WeighedInBooks y = new WeighedInBooks();
            long one = room.getCurrentThreadAllocatedBytes() - start;
            // The first run makes what the machine itself needs to start.
            c.isTrue("run " + run + " made " + made + " bytes", run == 0 || made < 512);
            c.isTrue("a new object has " + one + " bytes", one < 32768 && y.count(0) == 0);
        }
    }
}
