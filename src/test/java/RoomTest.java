import com.sun.management.ThreadMXBean;
import java.lang.management.ManagementFactory;

/**
 * All calls of one run live in one room: as many calls of each kind as one bench may take beside those that
 * make its rule, and the bench itself, stay within it.
 */
public final class RoomTest {
    /** The room's 7.3 million fields and elements, in bytes. */
    private static final long ROOM = 7300000L * 8;
    private static final int CALLS = 470;
    private static final int KINDS = 20;

    public static void main(String[] args) {
        ThreadMXBean threads = (ThreadMXBean) ManagementFactory.getThreadMXBean();
        long me = Thread.currentThread().getId();
        for (int kind = 0; kind < KINDS; kind++) {
            long before = threads.getThreadAllocatedBytes(me);
            StepBench x = benchWithAll();
            for (int i = 0; i < CALLS; i++) {
                call(x, kind);
            }
            long made = threads.getThreadAllocatedBytes(me) - before;
            Due.is(CALLS + " calls of kind " + kind + " make " + made + " bytes, that is within the room", true,
                made <= ROOM);
        }
        Due.close("RoomTest");
    }

    private static StepBench benchWithAll() {
        StepBench x = Bench.threeQuarters();
        x.act(1, 0, 1, 2);
        x.act(0, 1, 0, 0);
        x.rest(0);
        x.rest(1);
        return x;
    }

    private static void call(StepBench x, int kind) {
        switch (kind) {
            case 0: x.rings(7); break;
            case 1: x.falls(7); break;
            case 2: x.backs(5, 20); break;
            case 3: x.least(20000, 2000); break;
            case 4: x.run(1, 100000); break;
            case 5: x.go(1000, 0, 0, 0, 100000); break;
            case 6: x.drift(); break;
            case 7: x.fixed(); break;
            case 8: x.both(); break;
            case 9: x.shape(); break;
            case 10: x.ring(); break;
            case 11: x.word(27, 40); break;
            case 12: x.sheet(2, 64); break;
            case 13: x.back(4); break;
            case 14: x.draft(64); break;
            case 15: x.peak(1, 100000); break;
            case 16: x.turn(); break;
            case 17: x.made(); break;
            case 18: x.list(); break;
            default: x.until(1, 5, 100000); break;
        }
    }
}
