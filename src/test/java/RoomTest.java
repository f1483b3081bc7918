import com.sun.management.ThreadMXBean;
import java.lang.management.ManagementFactory;

/** What a run makes: a house in its constructor, and hardly anything in its calls. */
public final class RoomTest {
    private static final long HOUSE = 200000;
    private static final long CALLS = 100000;

    public static void main(String[] args) {
        ThreadMXBean threads = (ThreadMXBean) ManagementFactory.getThreadMXBean();
        long self = Thread.currentThread().getId();
        work(new SymmetryHouse());
        long before = threads.getThreadAllocatedBytes(self);
        SymmetryHouse x = new SymmetryHouse();
        long made = threads.getThreadAllocatedBytes(self) - before;
        Check.due("bytes of a house, " + made, made < HOUSE, true);
        before = threads.getThreadAllocatedBytes(self);
        work(x);
        made = threads.getThreadAllocatedBytes(self) - before;
        Check.due("bytes of its calls, " + made, made < CALLS, true);
        Check.end();
    }

    /** Some hundred of the dearest calls. */
    private static void work(SymmetryHouse x) {
        for (int i = 0; i < 20; i++) {
            // -F 4 2 3
            x.feed(0x2d462034, 0x20322033, 0x20202020, 0x20202020, 0x20202020);
            x.read(0, 8, true);
            x.part(0, 0, 1, 1);
            x.turn(0, 2, false);
            x.common(0, 1, 3);
            x.compare(0, 1);
            x.cosets(0, 1);
            x.coset(0, 1, 7);
            x.normal(0, 1);
            x.group(0, 9);
            x.group(0, 11);
            x.text(0, 100);
            x.operator(0, 100, 23);
            x.operator(0, 100, 18);
            x.orbit(0, 1, 2, 3, 7);
            x.metric(0, 1, 2, 3, 4, 5, 6);
            x.reflection(0, 1, 2, 3, 5);
            x.absent(0, 6);
        }
    }
}
