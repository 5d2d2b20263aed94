import com.sun.management.ThreadMXBean;
import java.lang.management.ManagementFactory;

/**
 * All calls of one run live in one room, so a call makes no rows of its own: as many of the dearest calls
 * as one bench may take, beside those that make its rule, together make less than one new object does.
 */
public final class RoomTest {
    /** The room's 7.3 million fields and elements, in bytes, shared by 512 new objects. */
    private static final long MOST_OF_ONE = 7300000L * 8 / 512;
    private static final int CALLS = 470;

    public static void main(String[] args) {
        ThreadMXBean threads = (ThreadMXBean) ManagementFactory.getThreadMXBean();
        long me = Thread.currentThread().getId();
        StepBench x = benchWithAll();
        calls(x, 40);
        StepBench y = benchWithAll();
        long before = threads.getThreadAllocatedBytes(me);
        calls(y, CALLS);
        long behind = threads.getThreadAllocatedBytes(me);
        Due.is(CALLS + " calls make " + (behind - before) + " bytes, that is little", true, behind - before < 4096);
        new StepBench();
        before = threads.getThreadAllocatedBytes(me);
        StepBench z = new StepBench();
        behind = threads.getThreadAllocatedBytes(me);
        Due.is("a new one makes " + (behind - before) + " bytes, that is not much", true,
            behind - before < MOST_OF_ONE);
        Due.is("it is new", 0, z.count(0));
        Due.close("RoomTest");
    }

    private static StepBench benchWithAll() {
        StepBench x = Bench.threeQuarters();
        x.act(1, 0, 1, 2);
        x.act(0, 1, 0, 0);
        x.rest(0);
        x.rest(1);
        return x;
    }

    private static void calls(StepBench x, int n) {
        for (int i = 0; i < n; i++) {
            switch (i % 16) {
                case 0: x.rings(7); break;
                case 1: x.falls(7); break;
                case 2: x.backs(5, 20); break;
                case 3: x.least(20000, 2000); break;
                case 4: x.run(1, 100000); break;
                case 5: x.go(1000, 0, 0, 0, 100000); break;
                case 6: x.drift(); break;
                case 7: x.fixed(); break;
                case 8: x.both(); break;
                case 9: x.shape(); break;
                case 10: x.ring(); break;
                case 11: x.word(27, 40); break;
                case 12: x.sheet(2, 64); break;
                case 13: x.back(4); break;
                case 14: x.draft(64); break;
                default: x.peak(1, 100000); break;
            }
        }
    }
}
