import java.lang.management.ManagementFactory;

/**
 * How much a run makes: all calls of one run live in one room of some 600,000 objects and 7.3 million fields and
 * elements, so 512 of the dearest calls have to stay far below it.
 */
public final class RoomTest {
    private static final Checks CHECK = new Checks("RoomTest");
    /** 600,000 objects of the smallest size there is. */
    private static final long MOST_BYTES = 600_000L * 16;
    /** With those that make the object ready, no more than the document promises. */
    private static final int CALLS = 500;

    public static void main(String[] args) {
        room("digest()", CALLS, x -> x.digest());
        room("code()", CALLS, x -> x.code());
        room("bestStep(0, 64)", CALLS, x -> x.bestStep(0, 64));
        room("ifSpoiled(1, 3)", CALLS, x -> x.ifSpoiled(1, 3));
        room("count(4)", CALLS, x -> x.count(4));
        room("goBack(0)", CALLS, x -> x.goBack(0));
        room("take() and code()", CALLS / 2, x -> {
            x.take();
            x.code();
        });
        room("write() and load()", CALLS / 2, x -> {
            x.write(31);
            x.load(31);
        });
        CHECK.end();
    }

    private static void room(String what, int times, Checks.Call call) {
        long before = bytesSoFar();
        SteppedSamples x = new SteppedSamples();
        x.wave(64);
        x.add(2, 2047, 13);
        x.set(0, 2);
        x.set(1, 1);
        x.code();
        x.lose(31);
        x.keep(0);
        for (int k = 0; k < times; k++) {
            call.on(x);
        }
        long made = bytesSoFar() - before;
        CHECK.holds(what + ", " + times + " times, makes " + made + " bytes", made < MOST_BYTES);
    }

    /** Bytes that this thread has taken for objects, where the machine counts them. */
    private static long bytesSoFar() {
        if (ManagementFactory.getThreadMXBean() instanceof com.sun.management.ThreadMXBean threads
                && threads.isThreadAllocatedMemorySupported()) {
            return threads.getCurrentThreadAllocatedBytes();
        }
        return 0;
    }
}
