import java.lang.management.ManagementFactory;

/**
 * Nothing that a run makes is given back, so what 512 calls make in all must be small. An element is
 * at least one byte, so fewer bytes than the room has elements are surely fewer elements.
 */
public final class RoomTest {
    private static final int CALLS = 512;
    private static final long MOST_BYTES = 1_000_000;

    private interface Run {
        void use(SegmentIndex x, int call);
    }

    public static void main(String[] args) {
        spent("flush one by one", RoomTest::flushOneByOne);
        spent("pack one by one", RoomTest::packOneByOne);
        spent("sets", RoomTest::makeSets);
        spent("ranks", RoomTest::rank);
        Check.end();
    }

    private static void spent(String what, Run run) {
        bytes(run);
        long bytes = bytes(run);
        Check.compare(what + ": " + bytes + " bytes are few", (bytes < MOST_BYTES) + "", "true");
    }

    private static long bytes(Run run) {
        com.sun.management.ThreadMXBean threads =
                (com.sun.management.ThreadMXBean) ManagementFactory.getThreadMXBean();
        long before = threads.getThreadAllocatedBytes(Thread.currentThread().getId());
        SegmentIndex x = new SegmentIndex();
        for (int call = 0; call < CALLS; call++) {
            run.use(x, call);
        }
        return threads.getThreadAllocatedBytes(Thread.currentThread().getId()) - before;
    }

    private static void flushOneByOne(SegmentIndex x, int call) {
        if (call % 2 == 0) {
            x.add();
        } else {
            x.flush();
        }
    }

    private static void packOneByOne(SegmentIndex x, int call) {
        if (call % 3 == 0) {
            x.token(0, 0, call, call);
        } else if (call % 3 == 1) {
            x.add();
        } else {
            x.pack();
        }
    }

    private static void makeSets(SegmentIndex x, int call) {
        if (call < 250) {
            fill(x, call);
        } else if (x.count(5) < 2) {
            x.begins(15, 0, 0, 0);
        } else {
            x.join(1);
        }
    }

    private static void rank(SegmentIndex x, int call) {
        if (call < 255) {
            fill(x, call);
        } else if (call == 255) {
            x.begins(15, 0, 0, 0);
        } else {
            x.best(call);
        }
    }

    private static void fill(SegmentIndex x, int call) {
        if (call % 50 == 49) {
            x.add();
        } else {
            x.token(call % 4, call, call, call);
        }
    }
}
