import java.lang.management.ManagementFactory;

/** All calls of a run live in one room, which has place for 600,000 objects and 7.3 million elements. */
public final class RoomTest {
    /**
     * An object takes 16 bytes at least and an element one: in so many bytes there are fewer than
     * 600,000 objects and no more than 7.3 million elements.
     */
    private static final long ROOM = 7300000;
    private static final int CALLS = 512;
    private static final int CALLS_OF_ONE_GO = 51;

    private RoomTest() {
    }

    public static void main(String[] args) {
        com.sun.management.ThreadMXBean threads =
            (com.sun.management.ThreadMXBean) ManagementFactory.getThreadMXBean();
        long id = Thread.currentThread().getId();
        long sum = manyCalls(new WiredNets());
        long before = threads.getThreadAllocatedBytes(id);
        WiredNets x = new WiredNets();
        for (int go = 0; go < CALLS / CALLS_OF_ONE_GO; go++) {
            sum += manyCalls(x);
        }
        long taken = threads.getThreadAllocatedBytes(id) - before;
        Check.hold("bytes of a run: " + taken, taken < ROOM);
        Check.hold("calls were made", sum != 0);
        Check.end("RoomTest");
    }

    /** The dearest calls there are, and one of each other kind. */
    private static long manyCalls(WiredNets x) {
        long sum = x.seek(1, 12, 2, 7) + x.small(6, 8, 5) + x.found(1) + x.bound(3, 3);
        x.turned(0, 0, 23, 1, 0b11110000000000000011110);
        x.turned(1, 0, 12, 1, 0b111100011110);
        x.turned(2, 0, 10, 1, 0b1111011110);
        x.turned(3, 0, 8, 1, 0b10111010);
        x.net(4, 2, 1);
        x.line(4, 0, 1);
        x.glued(5, 0, 3, 4);
        x.glued(6, 1, 3, 4);
        x.copy(6, 7);
        x.off(7, 0, 1);
        x.feed(0x6b6e6f74, 0x73312064, 0x65677265, 0x65313b20, 0x20202020);
        sum += x.read(6, 16) + x.fault() + x.count(0) + x.count(1);
        sum += x.cool(0, 5, 500, 10000) + x.falls(0, 0, 2) + x.falls(0, 1, 2) + x.fallen(1) + x.missing(0);
        for (int what = 0; what < 6; what++) {
            sum += x.far(0, what);
        }
        sum += x.about(0, 3) + x.lineAt(0, 5) + x.distance(0, 0, 9) + x.apart(0, 0, 9) + x.walks(0, 10);
        sum += x.hop(0, 0, 9) + x.load(0, 0, 1) + x.heavy(0, 1) + x.heavy(0, 2) + x.upward(0, 3, 1) + x.lay(0, 5);
        sum += x.laid(3) + x.poly(1, 3) + x.above(1, 0) + x.better(1) + x.halves(1) + x.tell(2, 0) + x.lay(3, 3);
        sum += x.locks(0) && x.change(0, 0, 50, false) ? 1 : 0;
        return sum + x.grow(0, 2);
    }
}
