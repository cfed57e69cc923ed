import java.lang.management.ManagementFactory;

/** The room of one run: an object is small, its calls make nothing, and the dearest of them end soon. */
public final class RoomTest {
    /** 7.3 million elements are the room of a run; an object with all its calls takes a small part of it. */
    private static final long OBJECT_BYTES = 1_000_000L;
    /** What the machine itself makes beside the calls. */
    private static final long CALLS_BYTES = 200_000L;

    private static long allocated() {
        return ((com.sun.management.ThreadMXBean) ManagementFactory.getThreadMXBean())
            .getThreadAllocatedBytes(Thread.currentThread().getId());
    }

    private static void say(TwinRuns x, String text) {
        for (int i = 0; i < text.length(); i++) {
            x.say(text.charAt(i));
        }
        x.saying();
    }

    /** Programs that are spent from each start and a saying that means most pairs. */
    private static TwinRuns dear() {
        TwinRuns x = new TwinRuns();
        for (int p = 0; p < 2; p++) {
            for (int i = 0; i < 6; i++) {
                x.line(p, 6, i % 4, 0, 0);
            }
            x.line(p, 2, 0, 0, 1);
            x.line(p, 3, 1, 1, 2);
            x.line(p, 2, 2, 2, 3);
            x.line(p, 2, 3, 3, 0);
            x.line(p, 0, 3, 1, 0);
            x.line(p, 5, 3, 0, 0);
        }
        say(x, "a#b:o");
        for (int i = 0; i <= 12; i++) {
            for (int j = 0; j <= 12; j++) {
                x.tell(i, j, 0);
            }
        }
        return x;
    }

    private static int callDear(TwinRuns x, int round) {
        x.wait(11, 11, round % 3);
        int sum = x.holds(0, 0, 1, 0) + x.walk(0, 0, 1, 2) + x.shape(0, 0, 1, 12, 12) + x.fails(0, 0, 1);
        sum += x.so(0, 0, 0) + x.fit(0, 7, 0, 3, 0) + x.far(0, 1, 2, 3) + x.changed(0, 1, 0);
        sum += x.orders(0, 1, round % 256, 0) + x.run(0, 3, 1) + x.pair(0, 0, 1, 1, 2, 1) + x.part(0, 1, 1, 2);
        return sum;
    }

    public static void main(String[] args) {
        dear();
        long before = allocated();
        TwinRuns x = dear();
        long made = allocated() - before;
        callDear(x, 0);
        before = allocated();
        int sum = 0;
        for (int round = 0; round < 30; round++) {
            sum += callDear(x, round);
        }
        long inCalls = allocated() - before;
        boolean fine = made <= OBJECT_BYTES && inCalls <= CALLS_BYTES;
        System.out.println("RoomTest: " + made + " bytes an object, " + inCalls + " bytes in its calls (" + sum + ")");
        if (!fine) {
            System.exit(1);
        }
    }
}
