import java.lang.management.ManagementFactory;
import java.util.Random;

/** All calls of a run live in one room: what they make together must stay far below what it holds. */
public final class RoomTest {
    private static final int CALLS = Runs.MOST_CALLS;
    /** Of some 600,000 objects, 16 bytes at the least each, a run may fill a part. */
    private static final long MOST_BYTES = 4_000_000;
    private static final com.sun.management.ThreadMXBean ROOM =
        (com.sun.management.ThreadMXBean) ManagementFactory.getThreadMXBean();

    public static void main(String[] args) {
        Checks checks = new Checks();
        if (ROOM.isThreadAllocatedMemorySupported()) {
            checks.test("a run by lot makes little", RoomTest::runsByLot);
            checks.test("each call makes little, asked again and again on a full one", RoomTest::eachCall);
        } else {
            checks.test("this machine doesn't tell what is made", c -> { });
        }
        checks.end();
    }

    private static WeighedInBooks full() {
        WeighedInBooks x = new WeighedInBooks();
        Runs.play((which, arguments) -> Calls.answer(x, which, arguments), (Object) Runs.FULL);
        return x;
    }

    private static void runsByLot(Checks c) {
        for (int run = 0; run < 20; run++) {
            Random lot = new Random(run);
            WeighedInBooks x = full();
            int[] which = new int[CALLS - Runs.FULL_CALLS];
            int[][] arguments = new int[which.length][];
            for (int i = 0; i < which.length; i++) {
                which[i] = lot.nextInt(Calls.NAMES.length);
                arguments[i] = Calls.arguments(lot, which[i], 6, 10);
            }
            c.isTrue("run " + run, made(x, which, arguments) < MOST_BYTES);
        }
    }

    private static void eachCall(Checks c) {
        for (int call = 0; call < Calls.NAMES.length; call++) {
            Random lot = new Random(call);
            WeighedInBooks x = full();
            int[] which = new int[CALLS - Runs.FULL_CALLS];
            int[][] arguments = new int[which.length][];
            for (int i = 0; i < which.length; i++) {
                which[i] = call;
                arguments[i] = Calls.arguments(lot, call, 6, 10);
            }
            c.isTrue(Calls.NAMES[call] + "()", made(x, which, arguments) < MOST_BYTES);
        }
    }

    private static long made(WeighedInBooks x, int[] which, int[][] arguments) {
        long before = ROOM.getCurrentThreadAllocatedBytes();
        for (int i = 0; i < which.length; i++) {
            Calls.answer(x, which[i], arguments[i]);
        }
        return ROOM.getCurrentThreadAllocatedBytes() - before;
    }
}
