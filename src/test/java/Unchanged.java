import java.util.ArrayList;
import java.util.List;
import java.util.Set;
import java.util.function.Supplier;

/**
 * Calls that change nothing: the town in which one has been made answers whatever is asked as its twin does,
 * in which it has not. An object is good for 512 calls, so each part of the questions has twins of its own.
 */
final class Unchanged {
    private static final Set<String> NAMING_FAULTS = Set.of("line", "text", "sheet", "put", "cell", "copy", "as");
    private static final int PART = 280;
    private static final int SIZE = 4;
    private static final List<Object[]> QUESTIONS = new ArrayList<>();

    static {
        askCounts();
        askLines();
        askTextsAndTrips();
        askDepotsAndNights();
        askSheets();
        askByChanging();
    }

    private Unchanged() {
    }

    /** The call answers what is due, changes nothing, and fault() is then as the document tells. */
    static void due(Supplier<RedrawnLines> town, long want, String name, Object... args) {
        int fault = want <= -11 && want >= -14 ? (int) (-10 - want) : 0;
        check(town, want, fault, name, args);
    }

    /** The same of a cell that is lost. */
    static void lost(Supplier<RedrawnLines> town, int fault, int k, int i, int lane) {
        check(town, Long.MIN_VALUE, fault, "cell", k, i, lane);
    }

    private static void check(Supplier<RedrawnLines> town, long want, int fault, String name, Object... args) {
        RedrawnLines x = town.get();
        int before = otherFault(x, fault);
        Check.ask(x, want, name, args);
        Check.due("fault() behind " + Calls.told(name, args), x.fault(), NAMING_FAULTS.contains(name) ? fault : before);
        for (int from = 0; from < QUESTIONS.size(); from += PART) {
            RedrawnLines asked = town.get();
            RedrawnLines twin = town.get();
            Calls.answer(asked, name, args);
            comparePart(from, asked, twin, Calls.told(name, args));
        }
    }

    /** Comes to a fault that is not the one told: what is due behind it can't be what was left there. */
    private static int otherFault(RedrawnLines x, int fault) {
        if (fault == SIZE) {
            x.put(0, -1, 0);
        } else {
            x.sheet(0, 0, -1);
        }
        return x.fault();
    }

    private static void comparePart(int from, RedrawnLines asked, RedrawnLines twin, String call) {
        int differing = 0;
        String first = "";
        for (int q = from; q < QUESTIONS.size() && q < from + PART; q++) {
            String name = (String) QUESTIONS.get(q)[0];
            Object[] args = (Object[]) QUESTIONS.get(q)[1];
            if (Calls.answer(asked, name, args) != Calls.answer(twin, name, args)) {
                differing++;
                first = first.isEmpty() ? Calls.told(name, args) : first;
            }
        }
        Check.due("behind " + call + " " + first + " and how many more", differing, 0);
    }

    private static void add(String name, Object... args) {
        QUESTIONS.add(new Object[] {name, args});
    }

    private static void askCounts() {
        for (int what = 0; what < 8; what++) {
            add("many", what);
        }
        add("trace");
        for (int a = 0; a < 16; a++) {
            for (int b = a; b < 16; b++) {
                add("far", a, b);
            }
        }
    }

    private static void askLines() {
        for (int l = 0; l < 14; l++) {
            for (int what = 0; what < 18; what++) {
                add("ofLine", l, what);
            }
            for (int day : new int[] {0, 5, 40, 59}) {
                add("runs", l, day);
            }
            for (int k = 0; k < 8; k++) {
                add("minute", l, k, 420);
                add("standing", l, k - 1, 0);
            }
            add("extra", l);
        }
    }

    private static void askTextsAndTrips() {
        for (int s = 0; s < 16; s++) {
            for (int day : new int[] {0, 5, 59}) {
                add("owed", s, day);
                add("why", s, day);
                add("served", s, day);
            }
        }
        for (int day : new int[] {0, 5, 59}) {
            add("breach", day);
            for (int t = 0; t < 6; t++) {
                for (int what = 0; what < 3; what++) {
                    add("way", t, day, what);
                }
            }
        }
        for (int what = 0; what < 5; what++) {
            add("who", 0, 50, what);
        }
        for (int what = 0; what < 4; what++) {
            add("best", 0, 500, what);
            add("best", 5, 99999, what);
        }
    }

    private static void askDepotsAndNights() {
        for (int l = -1; l < 14; l++) {
            for (int d = 0; d < 4; d++) {
                add("empty", l, d);
            }
            for (int day : new int[] {0, 5, 59}) {
                add("fit", day, l);
                add("roster", day, l);
            }
        }
        for (int k = -1; k < 6; k++) {
            add("night", 0, 0, 0, k);
            add("night", 5, 3, 900, k);
        }
    }

    private static void askSheets() {
        for (int k = 0; k < 4; k++) {
            for (int lane = 0; lane < 3; lane++) {
                for (int i : new int[] {0, 1, 2, 3, 4, 5, 6, 7, 8, 9, 19, 20, 59, 60}) {
                    add("cell", k, i, lane);
                }
            }
        }
    }

    /** These change both twins alike, and tell what was there before. */
    private static void askByChanging() {
        add("seats", 9);
        for (int l = 0; l < 14; l++) {
            for (int k = 0; k < 7; k++) {
                add("waiting", l, k, 9);
            }
            for (int d = 0; d < 6; d++) {
                add("know", d, l, true);
            }
            add("days", l, 7, 9);
            add("offer", l);
        }
        for (int s = 0; s < 16; s++) {
            add("board", s, true);
        }
        for (int k = 0; k < 4; k++) {
            add("drop", k);
        }
        add("stop", 1, 2);
        add("far", 0, 15);
        add("driver");
        add("depot", 3, 4, 5);
        add("trip", 0, 1, 2, 3, 1);
    }
}
