import com.sun.management.ThreadMXBean;
import java.lang.management.ManagementFactory;

/** What 512 calls on one object make stays far within the room that a run has. */
public final class RoomTest {
    /** The room has 600,000 objects, each of 16 bytes at least, and 7.3 million fields and elements: both are more. */
    private static final long MOST_BYTES = 9_600_000;

    public static void main(String[] args) {
        Due due = new Due();
        ThreadMXBean threads = (ThreadMXBean) ManagementFactory.getThreadMXBean();
        long before = threads.getCurrentThreadAllocatedBytes();
        int sum = use(new MiddleScale());
        long made = threads.getCurrentThreadAllocatedBytes() - before;
        System.out.println("made " + made + " bytes, answers " + sum);
        due.is("no more than " + MOST_BYTES + " bytes", made <= MOST_BYTES, true);
        due.end();
    }

    private static int use(MiddleScale x) {
        int sum = 0;
        for (int things = 3; things <= 7; things++) {
            x.things(things);
            sum += x.rows();
        }
        for (int kind = 0; kind < 3; kind++) {
            sum += x.scale(kind, 1, 1);
        }
        for (int turn = 0; turn < 16; turn++) {
            sum += x.note(turn % 3, new int[] {7, 15, 3}[turn % 3] << turn % 4, 2 - turn % 3 / 2 + turn % 4);
            sum += dear(x, turn % 3, turn % 7);
        }
        return sum;
    }

    /** Thirty calls, all that walk through many rows among them. */
    private static int dear(MiddleScale x, int scale, int thing) {
        int sum = x.rows() + x.row(0, 0) + x.ends() + x.pair(2) + x.goose() + x.centre() + x.quarrels() + x.proof();
        sum += x.wrongly() + x.mends(0) + x.laying(scale, new int[] {7, 15, 3}[scale], true) + x.next(scale);
        sum += x.fewest(scale) + x.bound(scale) + x.byNext(scale) + x.mean(scale) + x.cheapest(true);
        sum += x.where(thing, scale) + x.sures(true) + x.needless() + x.stands(thing, true) + x.sorted(-1);
        sum += x.played(scale, 20, thing, 2) + x.count(5) + x.count(6) + x.places(thing);
        x.feed(0x30313233, 0x34353600, 0, 0, 0);
        x.end(7);
        return sum + x.nearly();
    }
}
