import com.sun.management.ThreadMXBean;
import java.lang.management.ManagementFactory;

/**
 * What an object and its 512 dearest calls make: a run has room for some 600,000 objects and 7.3 million elements.
 * An object takes 16 bytes at least and an element of a row of ints 4, so that a tenth of that room is kept to
 * if no more than 960,000 bytes are made.
 */
public final class RoomTest {
    private static final long MOST_BYTES = 960_000;
    private static final int CALLS = 512;
    private static final int TRIED = 10;
    private static final int KINDS = 10;
    private static final ThreadMXBean MACHINE = (ThreadMXBean) ManagementFactory.getThreadMXBean();

    public static void main(String[] args) throws Exception {
        if (args.length == 0) {
            System.exit(withoutCompiler());
        }
        for (int kind = 0; kind < KINDS; kind++) {
            // The first time the machine's own objects for the classes are made, too.
            bytesOf(kind, 1);
            long town = bytesOf(kind, 0);
            long calls = (bytesOf(kind, TRIED) - town) * CALLS / TRIED;
            Check.due("a full town makes " + town + " bytes, 512 calls of kind " + kind + " " + calls, town + calls <= MOST_BYTES ? 1 : 0, 1);
            Check.due("the town's bytes are counted", town > 30_000 ? 1 : 0, 1);
        }
        Check.end();
    }

    /** The machine's compiler leaves out objects that it sees no use for; its interpreter makes them all. */
    private static int withoutCompiler() throws Exception {
        String java = System.getProperty("java.home") + "/bin/java";
        return new ProcessBuilder(java, "-Xint", "-cp", System.getProperty("java.class.path"), "RoomTest", "counted").inheritIO().start().waitFor();
    }

    private static long bytesOf(int kind, int calls) {
        long before = MACHINE.getCurrentThreadAllocatedBytes();
        RedrawnLines x = Towns.full();
        for (int k = 0; k < calls; k++) {
            callOnce(x, kind, 5 * k % 58);
        }
        return MACHINE.getCurrentThreadAllocatedBytes() - before;
    }

    private static void callOnce(RedrawnLines x, int kind, int day) {
        switch (kind) {
            case 0: x.best(day, 99999, 0); break;
            case 1: x.text(0, 0, 0, 60); break;
            case 2: x.line(0, 0, 1, 0, 2, 2, 0, 8); break;
            case 3: x.who(day, 59 - day, 3); break;
            case 4: x.fit(day, 0); break;
            case 5: x.roster(day, 0); break;
            case 6: x.night(day, 0, 0, 0); break;
            case 7: x.sheet(0, 2, 60); break;
            case 8: x.copy(0, 0, 0, 1, 59); break;
            default: x.breach(day); break;
        }
    }
}
