import java.lang.management.ManagementFactory;

/** All calls of a run live in one room, so calls must make next to nothing. */
public final class RoomTest {
    private static final Due DUE = new Due("RoomTest");

    public static void main(String[] args) {
        com.sun.management.ThreadMXBean threads = (com.sun.management.ThreadMXBean) ManagementFactory.getThreadMXBean();
        long id = Thread.currentThread().getId();
        dearCalls(new WovenKeeper());
        long before = threads.getThreadAllocatedBytes(id);
        WovenKeeper x = new WovenKeeper();
        long made = threads.getThreadAllocatedBytes(id);
        DUE.is("a new object takes below 100,000 bytes", made - before < 100_000, true);
        dearCalls(x);
        long after = threads.getThreadAllocatedBytes(id);
        DUE.is("512 calls take below 400,000 bytes", after - made < 400_000, true);
        DUE.close();
    }

    /** Some 512 of the dearest calls; the tests' own rows for the tape are made beforehand. */
    private static void dearCalls(WovenKeeper x) {
        x.code(5);
        x.drawn(8, 1, 3);
        for (int n = 0; n < 34; n++) {
            int kind = n & 1;
            x.undo();
            x.drawn(8, 1, n);
            x.pair(kind);
            x.pairings(kind);
            x.grow(kind);
            x.correction(kind, n % 3);
            x.result(kind, 0);
            x.often(kind, n % 3, 0, 1, n, 8);
            x.like(kind, 0, 5);
            x.odds(kind, 1, 3, 2);
            x.distance(kind);
            x.blame(kind, 0, 3);
            x.far(kind, 0, 1);
            x.line(3);
        }
        x.code(5);
        for (int n = 0; n < 30; n++) {
            x.often(n & 1, n % 3, 8, 2, n, 8);
        }
    }
}
