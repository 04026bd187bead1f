import java.math.BigInteger;
import java.util.Arrays;

/** REFUSALS and FAULTS as 'Terms' has them for all calls, promises 40 to 42, and an object's 512 calls. */
public final class EdgesTermsTest {
    private static final int LEAST = Integer.MIN_VALUE;
    private static final int MOST = Integer.MAX_VALUE;

    public static void main(String[] args) {
        constants();
        refusals();
        faults();
        indexOfNone();
        numbersOfFaults();
        traceWraps();
        faultAtFirst();
        faultOfTheLatest();
        faultKept();
        many();
        lastCall();
        Check.end();
    }

    private static void constants() {
        Check.says("NONE is -9.");
        Check.due("NONE", RedrawnLines.NONE, -9);
        Check.ask(Towns.ordinary(), -9, "why", 1, 0);
    }

    private static void refusals() {
        Check.says("REFUSALS: UNKNOWN (there is no such STOP, LINE, TEXT, TRIP, DEPOT, DRIVER, SHEET, place), OUTSIDE (another number is not as told), STATE (as told), FULL;");
        RedrawnLines x = Towns.ordinary();
        Check.ask(x, RedrawnLines.UNKNOWN, "far", 0, 6);
        Check.ask(x, RedrawnLines.UNKNOWN, "runs", 3, 0);
        Check.ask(x, RedrawnLines.UNKNOWN, "way", 3, 0, 0);
        Check.ask(x, RedrawnLines.UNKNOWN, "empty", 0, 2);
        Check.ask(x, RedrawnLines.UNKNOWN, "know", 3, 0, true);
        Check.ask(x, RedrawnLines.UNKNOWN, "drop", 4);
        Check.ask(x, RedrawnLines.UNKNOWN, "minute", 0, 3, 0);
        Check.ask(x, RedrawnLines.OUTSIDE, "runs", 0, 60);
        Check.ask(x, RedrawnLines.STATE, "offer", 1);
        Check.ask(Towns.full(), RedrawnLines.FULL, "driver");
        Check.says("They change nothing (but fault(), of a call that names FAULTS).");
        Unchanged.due(Towns::ordinary, -1, "runs", 3, 0);
        Unchanged.due(Towns::ordinary, -2, "runs", 0, 60);
        Unchanged.due(Towns::ordinary, -3, "offer", 1);
        Unchanged.due(Towns::full, -4, "driver");
        Unchanged.due(Towns::ordinary, -1, "sheet", 4, 0, 0);
        Unchanged.due(Towns::ordinary, -2, "sheet", 0, 0, 61);
        Unchanged.due(Towns::ordinary, -2, "as", 0, 3);
    }

    private static void faults() {
        Check.says("FAULTS are the machine's: 1 NULL (there is nothing), 2 CAST (it is of another LANE, kind), 3 INDEX");
        Unchanged.due(Towns::ordinary, -11, "put", 3, 0, 0);
        Unchanged.due(Towns::ordinary, -12, "as", 0, 1);
        Unchanged.due(Towns::ordinary, -12, "text", 0, 1, 0, 1);
        Unchanged.due(Towns::ordinary, -13, "put", 0, 9, 0);
        Check.says("4 SIZE (a length below 0).");
        Unchanged.due(Towns::ordinary, -14, "sheet", 0, 0, -1);
        Unchanged.due(Towns::ordinary, -14, "text", 0, 0, 0, -1);
        Unchanged.due(Towns::ordinary, -14, "line", 0, 0, 1, 0, 2, 2, 0, -1);
        // A length of 0 is none below it.
        Check.ask(Towns.ordinary(), 1, "sheet", 0, 0, 0);
        Unchanged.due(Towns::ordinary, -100, "text", 0, 0, 0, 0);
    }

    private static void indexOfNone() {
        Check.says("(of cells from i on also where i is not 0 .. how many there are, if none of them is taken, too)");
        int[] sizes = {9, 4, 20};
        for (int k = 0; k < 3; k++) {
            for (int i : new int[] {0, sizes[k]}) {
                Unchanged.due(Towns::ordinary, -100, "text", k, k, i, 0);
                Unchanged.due(Towns::ordinary, -2, "line", 0, 0, 1, 0, k, k, i, 0);
                Unchanged.due(Towns::ordinary, 0, "copy", k, i, k, 0, 0);
                Unchanged.due(Towns::ordinary, 0, "copy", k, 0, k, i, 0);
            }
            for (int i : new int[] {-1, sizes[k] + 1, LEAST, MOST}) {
                Unchanged.due(Towns::ordinary, -13, "text", k, k, i, 0);
                Unchanged.due(Towns::ordinary, -13, "line", 0, 0, 1, 0, k, k, i, 0);
                Unchanged.due(Towns::ordinary, -13, "copy", k, i, k, 0, 0);
                Unchanged.due(Towns::ordinary, -13, "copy", k, 0, k, i, 0);
            }
        }
    }

    private static void numbersOfFaults() {
        Check.says("it answers -10 less it (LOST, where a long is answered, as for refusals) and changes nothing; fault() tells it.");
        RedrawnLines x = Towns.ordinary();
        Object[][] calls = {{"put", 3, 0, 0}, {"as", 0, 1}, {"put", 0, 9, 0}, {"sheet", 0, 0, -1}, {"copy", 3, 0, 0, 0, 0}, {"copy", 0, 0, 1, 0, 0}, {"copy", 0, 0, 0, 0, 10}};
        int[] want = {1, 2, 3, 4, 1, 2, 3};
        for (int k = 0; k < calls.length; k++) {
            Object[] args = Arrays.copyOfRange(calls[k], 1, calls[k].length);
            Check.ask(x, -10 - want[k], (String) calls[k][0], args);
            Check.ask(x, want[k], "fault");
            Check.ask(x, want[k], "fault");
        }
        int[][] lost = {{3, 0, 0, 1}, {0, 0, 1, 2}, {0, 9, 0, 3}, {4, 0, 0, 0}, {0, 0, 3, 0}};
        for (int[] w : lost) {
            Check.ask(x, RedrawnLines.LOST, "cell", w[0], w[1], w[2]);
            Check.ask(x, w[3], "fault");
            Unchanged.lost(Towns::ordinary, w[3], w[0], w[1], w[2]);
        }
    }

    private static void traceWraps() {
        Check.says("TRACE.");
        RedrawnLines x = Towns.ordinary();
        // What Towns.ordinary() has left: a night line's 3, 2, 1, 1, then a lent 4.
        BigInteger whole = BigInteger.ZERO;
        for (int body : new int[] {3, 2, 1, 1, 4}) {
            whole = whole.multiply(BigInteger.valueOf(31)).add(BigInteger.valueOf(body));
        }
        Check.ask(x, whole.intValue(), "trace");
        boolean above = false;
        boolean below = false;
        for (int k = 0; k < 40; k++) {
            Check.ask(x, k % 3 == 2 ? 90 : k % 3, "hail", k % 3);
            whole = whole.multiply(BigInteger.valueOf(31)).add(BigInteger.valueOf(k % 3 == 2 ? 5 : 4));
            Check.ask(x, whole.intValue(), "trace");
            above |= whole.bitLength() > 40 && whole.intValue() > 0;
            below |= whole.intValue() < 0;
        }
        Check.due("it wrapped to both sides", above && below ? 1 : 0, 1);
    }

    private static void faultAtFirst() {
        Check.says("The FAULT of the latest call that names one: 0: it came to none, or was refused (0 ahead of any).");
        Check.ask(new RedrawnLines(), 0, "fault");
        RedrawnLines x = new RedrawnLines();
        x.stop(0, 0);
        x.stop(-1, 0);
        x.driver();
        Check.ask(x, 0, "fault");
        Check.ask(x, -11, "put", 0, 0, 0);
        Check.ask(x, 1, "fault");
        Check.ask(new RedrawnLines(), 0, "fault");
    }

    /** Each call that names FAULTS, as it comes to none and as it is refused. */
    private static void faultOfTheLatest() {
        Object[][] calls = {
            {"line", 3, 0, 0, 1, 0, 2, 2, 0, 2}, {"line", -2, 3, 0, 1, 0, 2, 2, 0, 2}, {"line", -1, 0, 0, 1, 0, 4, 2, 0, 2}, {"line", -2, 0, 0, 1, 0, 2, 2, 0, 1}, {"line", -3, 0, 0, 1, 0, 2, 2, 0, 7},
            {"text", -100, 0, 0, 0, 1}, {"text", -100, 0, 0, 0, 0}, {"text", -1, 4, 0, 0, 1}, {"text", -2, 0, 3, 0, 1},
            {"sheet", 1, 3, 0, 60}, {"sheet", -1, 4, 0, 1}, {"sheet", -2, 0, 0, 61}, {"put", 1, 0, 8, 5}, {"put", -1, 4, 0, 0},
            {"copy", 9, 0, 0, 0, 0, 9}, {"copy", 0, 0, 0, 0, 0, 0}, {"copy", -1, 4, 0, 0, 0, 0}, {"as", 1, 0, 0}, {"as", -1, 3, 0}, {"as", -2, 0, 3}};
        for (Object[] c : calls) {
            RedrawnLines x = Towns.ordinary();
            x.as(0, 1);
            Check.ask(x, 2, "fault");
            Check.ask(x, (Integer) c[1], (String) c[0], Arrays.copyOfRange(c, 2, c.length));
            Check.ask(x, 0, "fault");
        }
        RedrawnLines x = Towns.ordinary();
        x.as(0, 1);
        Check.ask(x, 9, "cell", 0, 8, 0);
        Check.ask(x, 0, "fault");
        Check.ask(x, -14, "sheet", 0, 0, -1);
        Check.ask(x, -13, "put", 0, 9, 0);
        Check.ask(x, 3, "fault");
        Check.text(x, "s0>1@0-0");
        Check.ask(x, 0, "fault");
    }

    /** Each call that names no FAULTS leaves fault() as it was, refused or not. */
    private static void faultKept() {
        Object[][] calls = {
            {"stop", 1, 1}, {"stop", -1, 0}, {"days", 0, 0, 1}, {"days", 9, 0, 1}, {"days", 0, 1, 0}, {"ofLine", 0, 0}, {"ofLine", 0, 9}, {"runs", 0, 0}, {"runs", 0, 60},
            {"minute", 0, 0, 0}, {"minute", 0, 9, 0}, {"far", 0, 1}, {"far", 0, 9}, {"owed", 0, 0}, {"owed", 9, 0}, {"why", 0, 0}, {"why", 0, 60}, {"served", 0, 0}, {"served", 9, 0},
            {"breach", 0}, {"breach", 60}, {"trip", 0, 1, 0, 0, 0}, {"trip", 0, 1, 0, 0, 4}, {"way", 0, 0, 0}, {"way", 9, 0, 0}, {"lose", 0, 0, 1}, {"lose", 9, 0, 1}, {"who", 0, 1, 0}, {"who", 0, 1, 5},
            {"offer", 0}, {"offer", 1}, {"offer", 9}, {"best", 0, 0, 0}, {"best", 0, 0, 4}, {"depot", 0, 0, 0}, {"depot", 0, 0, 10}, {"empty", 0, 0}, {"empty", 9, 0}, {"fit", 0, -1}, {"fit", 60, -1},
            {"driver"}, {"know", 0, 1, true}, {"know", 9, 1, true}, {"roster", 0, -1}, {"roster", 0, 9}, {"board", 1, true}, {"board", 9, true}, {"night", 0, 0, 0, -1}, {"night", 59, 0, 0, -1},
            {"waiting", 0, 0, 1}, {"waiting", 0, 2, 1}, {"seats", 5}, {"seats", 0}, {"standing", 0, -1, 0}, {"standing", 0, -1, -1}, {"extra", 0}, {"extra", 9}, {"drop", 0}, {"drop", 3}, {"drop", 4},
            {"tell", 0}, {"tell", 2}, {"tell", 9}, {"hail", 0}, {"hail", 2}, {"hail", 9}, {"trace"}, {"fault"}, {"many", 0}, {"many", 8}};
        for (Object[] c : calls) {
            for (int fault = 1; fault <= 4; fault++) {
                RedrawnLines x = Towns.ordinary();
                comeTo(x, fault);
                Calls.answer(x, (String) c[0], Arrays.copyOfRange(c, 1, c.length));
                Check.due("fault() behind " + Arrays.toString(c), x.fault(), fault);
            }
        }
    }

    private static void comeTo(RedrawnLines x, int fault) {
        switch (fault) {
            case 1: x.put(3, 0, 0); break;
            case 2: x.as(0, 1); break;
            case 3: x.put(0, -1, 0); break;
            default: x.sheet(0, 0, -1); break;
        }
    }

    private static void many() {
        Check.says("How many: 0 STOPS, 1 LINES, 2 TEXTS, 3 TRIPS, 4 OFFERED, 5 DEPOTS, 6 DRIVERS, 7 BOARDS. OUTSIDE.");
        int[][] want = {{0, 0, 0, 0, 0, 0, 0, 0}, {6, 3, 2, 3, 2, 2, 3, 2}, {16, 14, 12, 6, 4, 4, 6, 6}};
        RedrawnLines[] towns = {new RedrawnLines(), Towns.ordinary(), Towns.full()};
        for (int k = 0; k < 3; k++) {
            for (int what = 0; what < 8; what++) {
                Check.ask(towns[k], want[k][what], "many", what);
            }
        }
        for (int what : new int[] {-1, 8, LEAST, MOST}) {
            Unchanged.due(Towns::ordinary, -2, "many", what);
            Unchanged.due(RedrawnLines::new, -2, "many", what);
        }
        RedrawnLines x = Towns.ordinary();
        x.board(0, false);
        Check.ask(x, 1, "many", 7);
        x.board(3, false);
        Check.ask(x, 0, "many", 7);
    }

    private static void lastCall() {
        Check.says("An object is used for at most 512 calls after it has been made;");
        RedrawnLines x = new RedrawnLines();
        x.stop(0, 0);
        x.stop(5, 0);
        x.sheet(0, 0, 4);
        x.put(0, 1, 5);
        x.put(0, 2, 1);
        Check.ask(x, 0, "line", 2, 7, 1, 7, 0, 0, 0, 2);
        int trace = 0;
        for (int call = 7; call <= 510; call++) {
            Check.ask(x, 90, "hail", 0);
            trace = 31 * trace + 5;
        }
        Check.ask(x, 11, "tell", 0);
        trace = 31 * (31 * (31 * (31 * trace + 3) + 2) + 1) + 1;
        Check.ask(x, trace, "trace");
    }
}
