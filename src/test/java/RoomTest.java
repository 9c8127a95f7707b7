import java.lang.management.ManagementFactory;

/** A new object is small, and no call makes anything: all calls of one run live in one room. */
public final class RoomTest {
    private static final com.sun.management.ThreadMXBean ROOM = (com.sun.management.ThreadMXBean) ManagementFactory.getThreadMXBean();

    public static void main(String[] args) {
        new PuzzleWed();
        long start = taken();
        Bench b = Bench.people(6, 6);
        long made = taken() - start;
        b.law("f9(1=1&!(2=3));l9-s(i<99);w2(1=1);c5(1=1);b1(1=1)");
        b.edge(0, "1*4,2*4");
        b.x.wear(0, 3);
        once(b.x);
        start = taken();
        for (int n = 0; n < 20; n++) once(b.x);
        long more = taken() - start;
        System.out.println("RoomTest: an object takes " + made + " bytes, twenty rounds of calls " + more);
        // an object takes 16 bytes at least: one in each round would be seen
        if (made > 400000 || more >= 20 * 16) System.exit(1);
    }

    private static long taken() {
        return ROOM.getThreadAllocatedBytes(Thread.currentThread().getId());
    }

    private static void once(PuzzleWed x) {
        x.keep();
        x.feed(0x66312831, 0x3D312900, 0, 0, 0);
        x.law(7);
        x.feed(0x312A3831, 0, 0, 0, 0);
        x.edge(1, 3);
        x.feed(0x312A3831, 0, 0, 0, 0);
        x.journey(1, 3);
        x.feed(0x01010001, 0x01000000, 0, 0, 0);
        x.search(2, 20);
        x.feed(0x00010001, 0x01000000, 0, 0, 0);
        x.cutter(1, 0);
        x.feed(0x09090909, 0, 0, 0, 0);
        x.check(2, 4);
        for (int what = 0; what < 22; what++) {
            x.most(what);
            x.stable(what);
            x.tried(60, what);
            x.personIs(what, what);
            x.piece(what, what);
            x.count(what);
            x.locks(what);
            x.unrest(what);
            x.copies(what);
            x.sanding(0, 1, 40, 2, 40, what, 5);
            x.steaming(0, 1, 5, what);
            x.worn(0, what);
            x.slack(0, what, 2);
            x.mate(0, what);
        }
        x.days(60);
        x.weds(0, 6);
        x.dies(0);
        x.seed(5);
        x.undo();
    }
}
