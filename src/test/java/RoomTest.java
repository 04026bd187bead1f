import com.sun.management.ThreadMXBean;
import java.lang.management.ManagementFactory;

/**
 * What an object and its 512 dearest calls make: a run has room for some 600,000 objects and 7.3 million elements.
 * An object takes 16 bytes at least and an element of a row of ints 4, so that a tenth of that room is kept to
 * if no more than 960,000 bytes are made.
 */
public final class RoomTest {
    private static final long MOST_BYTES = 960_000;
    private static final int CALLS_TO_MAKE_THE_TOWN = 180;
    private static final int CALLS = 512 - CALLS_TO_MAKE_THE_TOWN;
    private static final int KINDS = 10;
    private static final ThreadMXBean MACHINE = (ThreadMXBean) ManagementFactory.getThreadMXBean();

    public static void main(String[] args) {
        for (int dear = 0; dear < KINDS; dear++) {
            // The first time the machine's own objects for the classes are made, too.
            bytesOf(dear);
            long bytes = bytesOf(dear);
            Check.due("a full town and " + CALLS + " calls of kind " + dear + " make " + bytes + " bytes", bytes <= MOST_BYTES ? 1 : 0, 1);
            Check.due("something is counted", bytes > 1000 ? 1 : 0, 1);
        }
        Check.end();
    }

    private static long bytesOf(int dear) {
        long before = MACHINE.getCurrentThreadAllocatedBytes();
        RedrawnLines x = Towns.full();
        for (int k = 0; k < CALLS; k++) {
            callOnce(x, dear, k % 60);
        }
        return MACHINE.getCurrentThreadAllocatedBytes() - before;
    }

    private static void callOnce(RedrawnLines x, int dear, int day) {
        switch (dear) {
            case 0: x.best(day, 99999, 0); break;
            case 1: x.text(0, 0, 0, 60); break;
            case 2: x.line(0, 0, 1, 0, 2, 2, 0, 8); break;
            case 3: x.who(day, 59 - day, 3); break;
            case 4: x.fit(day, 0); break;
            case 5: x.roster(day, 0); break;
            case 6: x.night(Math.min(58, day), 0, 0, 0); break;
            case 7: x.sheet(0, 2, 60); break;
            case 8: x.copy(0, 0, 0, 1, 59); break;
            default: x.breach(day); break;
        }
    }
}
