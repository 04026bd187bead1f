import java.util.Arrays;
import java.util.List;
import java.util.function.Supplier;

/** Terms, part 5, and promises 32 to 39, sentence by sentence: the edges that each one names. */
public final class EdgesSheetsTest {
    private static final int LEAST = Integer.MIN_VALUE;
    private static final int MOST = Integer.MAX_VALUE;
    private static final long LOST = Long.MIN_VALUE;

    public static void main(String[] args) {
        nothingAtFirst();
        lengths();
        cuts();
        sheetRefusals();
        drops();
        puts();
        cells();
        copies();
        copiesOfOne();
        copyRefusals();
        tellings();
        hailings();
        bodiesRefused();
        casts();
        Check.end();
    }

    private static void nothingAtFirst() {
        Check.says("SHEETS 0 .. 3 have nothing (at first), or a row of 0 .. 60 numbers (0 at first) of a LANE: 0 bytes, 1 shorts, 2 ints;");
        RedrawnLines x = new RedrawnLines();
        for (int k = 0; k < 4; k++) {
            Check.ask(x, -11, "put", k, 0, 0);
            Check.ask(x, 0, "drop", k);
        }
        Check.ask(x, -1, "put", -1, 0, 0);
        Check.ask(x, -1, "put", 4, 0, 0);
        for (int lane = 0; lane < 3; lane++) {
            Check.ask(x, 1, "sheet", lane, lane, 60);
            for (int i = 0; i < 60; i++) {
                Check.ask(x, 0, "cell", lane, i, lane);
            }
            Check.ask(x, LOST, "cell", lane, 60, lane);
        }
        Check.ask(x, -11, "put", 3, 0, 0);
    }

    private static void lengths() {
        RedrawnLines x = new RedrawnLines();
        for (int n : new int[] {0, 1, 59, 60}) {
            Check.ask(x, 1, "sheet", 3, 2, n);
            Check.ask(x, n > 0 ? 1 : -13, "put", 3, n - 1, 7);
            Check.ask(x, -13, "put", 3, n, 7);
            Check.ask(x, 1, "drop", 3);
        }
        Check.ask(x, -2, "sheet", 3, 2, 61);
        Check.ask(x, -14, "sheet", 3, 2, -1);
        Check.ask(x, 0, "drop", 3);
        // A new row, of zeros and of its own length, whatever was there.
        x.sheet(0, 2, 60);
        for (int i = 0; i < 60; i++) {
            x.put(0, i, 1000 + i);
        }
        Check.ask(x, 1, "sheet", 0, 2, 30);
        Check.ask(x, LOST, "cell", 0, 30, 2);
        Check.ask(x, 1, "sheet", 0, 1, 60);
        Check.ask(x, LOST, "cell", 0, 0, 2);
        for (int i = 0; i < 60; i++) {
            Check.ask(x, 0, "cell", 0, i, 1);
        }
    }

    private static void cuts() {
        Check.says("what comes to a cell of it is cut to its LANE.");
        int[][] want = {{127, 127, 127}, {128, -128, 128}, {255, -1, 255}, {256, 0, 256}, {257, 1, 257}, {-128, -128, -128}, {-129, 127, -129}, {-256, 0, -256},
            {32767, -1, 32767}, {32768, 0, -32768}, {65535, -1, -1}, {65536, 0, 0}, {-32768, 0, -32768}, {-32769, -1, 32767}, {70001, 113, 4465}, {MOST, -1, -1}, {LEAST, 0, 0}, {0, 0, 0}, {-1, -1, -1}};
        RedrawnLines x = new RedrawnLines();
        for (int lane = 0; lane < 3; lane++) {
            x.sheet(lane, lane, 3);
            for (int[] w : want) {
                Check.ask(x, 1, "put", lane, 1, w[0]);
                Check.ask(x, lane == 2 ? w[0] : w[1 + lane], "cell", lane, 1, lane);
                Check.ask(x, 0, "cell", lane, 0, lane);
                Check.ask(x, 0, "cell", lane, 2, lane);
            }
        }
    }

    private static void sheetRefusals() {
        Check.says("A SHEET gets a new row: 1. UNKNOWN; OUTSIDE: lane, n above 60; SIZE.");
        for (Supplier<RedrawnLines> town : List.<Supplier<RedrawnLines>>of(Towns::ordinary, Towns::full, RedrawnLines::new)) {
            for (int none : new int[] {-1, 4, LEAST, MOST}) {
                Unchanged.due(town, -1, "sheet", none, 0, 5);
                Unchanged.due(town, -1, "sheet", none, 3, 61);
                Unchanged.due(town, -1, "sheet", none, 3, -1);
            }
            for (int lane : new int[] {-1, 3, LEAST, MOST}) {
                Unchanged.due(town, -2, "sheet", 0, lane, 5);
                Unchanged.due(town, -2, "sheet", 0, lane, -1);
            }
            for (int n : new int[] {61, MOST}) {
                Unchanged.due(town, -2, "sheet", 0, 0, n);
                Unchanged.due(town, -2, "sheet", 0, -1, n);
            }
            for (int n : new int[] {-1, LEAST}) {
                Unchanged.due(town, -14, "sheet", 0, 0, n);
                Unchanged.due(town, -14, "sheet", 3, 2, n);
            }
        }
        Check.ask(Towns.ordinary(), 1, "sheet", 3, 2, 60);
        Check.ask(Towns.ordinary(), 1, "sheet", 0, 0, 0);
    }

    private static void drops() {
        Check.says("A SHEET has nothing: 1; 0: it had nothing. UNKNOWN.");
        RedrawnLines x = Towns.ordinary();
        for (int k = 0; k < 4; k++) {
            Check.ask(x, k == 3 ? 0 : 1, "drop", k);
            Check.ask(x, 0, "drop", k);
            Check.ask(x, -11, "put", k, 0, 0);
        }
        Check.ask(x, 1, "sheet", 3, 0, 0);
        Check.ask(x, 1, "drop", 3);
        Check.ask(x, 0, "drop", 3);
        for (int none : new int[] {-1, 4, LEAST, MOST}) {
            Unchanged.due(Towns::ordinary, -1, "drop", none);
        }
        Unchanged.due(Towns::ordinary, 0, "drop", 3);
        Unchanged.due(RedrawnLines::new, 0, "drop", 0);
    }

    private static void puts() {
        Check.says("Cell i of a SHEET becomes v: 1. UNKNOWN; NULL; INDEX.");
        RedrawnLines x = Towns.ordinary();
        for (int i : new int[] {0, 8}) {
            Check.ask(x, 1, "put", 0, i, 77);
            Check.ask(x, 77, "cell", 0, i, 0);
        }
        Check.ask(x, 2, "cell", 0, 1, 0);
        Check.ask(x, 8, "cell", 0, 7, 0);
        for (int none : new int[] {-1, 4, LEAST, MOST}) {
            Unchanged.due(Towns::ordinary, -1, "put", none, 0, 7);
            Unchanged.due(Towns::ordinary, -1, "put", none, -1, 7);
        }
        for (int i : new int[] {-1, 0, 1, LEAST, MOST}) {
            Unchanged.due(Towns::ordinary, -11, "put", 3, i, 7);
            Unchanged.due(RedrawnLines::new, -11, "put", 0, i, 7);
        }
        for (int i : new int[] {-1, 9, 60, LEAST, MOST}) {
            Unchanged.due(Towns::ordinary, -13, "put", 0, i, 7);
        }
        Unchanged.due(Towns::ordinary, -13, "put", 1, 4, 7);
        Unchanged.due(Towns::ordinary, -13, "put", 2, 20, 7);
        Unchanged.due(Towns::full, -13, "put", 2, 60, 7);
        Unchanged.due(EdgesSheetsTest::emptyRow, -13, "put", 3, 0, 7);
    }

    private static RedrawnLines emptyRow() {
        RedrawnLines x = Towns.ordinary();
        x.sheet(3, 0, 0);
        return x;
    }

    private static void cells() {
        Check.says("Cell i of what a SHEET has, taken as a row of a LANE. LOST: UNKNOWN, OUTSIDE: lane; FAULTS CAST (nothing is no CAST), NULL, INDEX.");
        RedrawnLines x = Towns.ordinary();
        Check.ask(x, 1, "cell", 0, 0, 0);
        Check.ask(x, 9, "cell", 0, 8, 0);
        Check.ask(x, -300, "cell", 1, 1, 1);
        Check.ask(x, 5, "cell", 2, 19, 2);
        for (int none : new int[] {-1, 4, LEAST, MOST}) {
            Unchanged.lost(Towns::ordinary, 0, none, 0, 0);
            Unchanged.lost(Towns::ordinary, 0, none, -1, 3);
        }
        for (int lane : new int[] {-1, 3, LEAST, MOST}) {
            Unchanged.lost(Towns::ordinary, 0, 0, 0, lane);
            Unchanged.lost(Towns::ordinary, 0, 0, 9, lane);
            Unchanged.lost(Towns::ordinary, 0, 3, 0, lane);
        }
        for (int lane = 0; lane < 3; lane++) {
            Unchanged.lost(Towns::ordinary, 1, 3, 0, lane);
            Unchanged.lost(Towns::ordinary, 1, 3, -1, lane);
            for (int sheet = 0; sheet < 3; sheet++) {
                if (lane != sheet) {
                    Unchanged.lost(Towns::ordinary, 2, sheet, 0, lane);
                    Unchanged.lost(Towns::ordinary, 2, sheet, -1, lane);
                    Unchanged.lost(Towns::ordinary, 2, sheet, 60, lane);
                }
            }
        }
        for (int i : new int[] {-1, 9, LEAST, MOST}) {
            Unchanged.lost(Towns::ordinary, 3, 0, i, 0);
        }
        Unchanged.lost(Towns::ordinary, 3, 1, 4, 1);
        Unchanged.lost(Towns::ordinary, 3, 2, 20, 2);
        Unchanged.lost(EdgesSheetsTest::emptyRow, 3, 3, 0, 0);
        Unchanged.due(Towns::ordinary, 9, "cell", 0, 8, 0);
    }

    private static void same(RedrawnLines x, int k, int lane, int... want) {
        for (int i = 0; i < want.length; i++) {
            Check.ask(x, want[i], "cell", k, i, lane);
        }
        Check.ask(x, LOST, "cell", k, want.length, lane);
    }

    private static void copies() {
        Check.says("n cells of a SHEET from i on go to another one (perhaps the same) from j on, as they were: n.");
        RedrawnLines x = Towns.ordinary();
        Check.fillLane(x, 3, 0, -1, -2, -3, -4);
        Check.ask(x, 0, "copy", 0, 0, 3, 0, 0);
        Check.ask(x, 0, "copy", 0, 9, 3, 4, 0);
        same(x, 3, 0, -1, -2, -3, -4);
        Check.ask(x, 1, "copy", 0, 8, 3, 3, 1);
        same(x, 3, 0, -1, -2, -3, 9);
        Check.ask(x, 2, "copy", 3, 0, 0, 7, 2);
        same(x, 0, 0, 1, 2, 3, 4, 5, 6, 7, -1, -2);
        Check.ask(x, 4, "copy", 0, 5, 3, 0, 4);
        same(x, 3, 0, 6, 7, -1, -2);
        Check.ask(x, 4, "copy", 3, 0, 0, 0, 4);
        same(x, 0, 0, 6, 7, -1, -2, 5, 6, 7, -1, -2);
        x = new RedrawnLines();
        x.sheet(0, 2, 60);
        x.sheet(1, 2, 60);
        for (int i = 0; i < 60; i++) {
            x.put(0, i, LEAST + i);
        }
        Check.ask(x, 60, "copy", 0, 0, 1, 0, 60);
        for (int i = 0; i < 60; i++) {
            Check.ask(x, LEAST + (long) i, "cell", 1, i, 2);
            Check.ask(x, LEAST + (long) i, "cell", 0, i, 2);
        }
    }

    private static void copiesOfOne() {
        int[][] want = {{0, 1, 8, 1, 1, 2, 3, 4, 5, 6, 7, 8}, {1, 0, 8, 2, 3, 4, 5, 6, 7, 8, 9, 9}, {0, 4, 5, 1, 2, 3, 4, 1, 2, 3, 4, 5}, {4, 0, 5, 5, 6, 7, 8, 9, 6, 7, 8, 9},
            {0, 0, 9, 1, 2, 3, 4, 5, 6, 7, 8, 9}, {9, 9, 0, 1, 2, 3, 4, 5, 6, 7, 8, 9}, {2, 3, 3, 1, 2, 3, 3, 4, 5, 7, 8, 9}, {3, 2, 3, 1, 2, 4, 5, 6, 6, 7, 8, 9}};
        for (int[] w : want) {
            RedrawnLines x = Towns.ordinary();
            Check.ask(x, w[2], "copy", 0, w[0], 0, w[1], w[2]);
            same(x, 0, 0, Arrays.copyOfRange(w, 3, 12));
        }
    }

    /** Sheet 3 has four bytes. */
    private static RedrawnLines fourBytes() {
        RedrawnLines x = Towns.ordinary();
        Check.fillLane(x, 3, 0, 6, 5, 4, 3);
        return x;
    }

    private static void copyRefusals() {
        Check.says("UNKNOWN; FAULTS NULL (the first, the other), CAST (unlike LANES), INDEX: i, j, n below 0 or beyond.");
        for (int none : new int[] {-1, 4, LEAST, MOST}) {
            Unchanged.due(Towns::ordinary, -1, "copy", none, 0, 0, 0, 1);
            Unchanged.due(Towns::ordinary, -1, "copy", 0, 0, none, 0, 1);
            Unchanged.due(Towns::ordinary, -1, "copy", 3, 0, none, -1, -1);
            Unchanged.due(Towns::ordinary, -1, "copy", none, -1, 3, 0, -1);
        }
        for (int n : new int[] {-1, 0, 1, 99}) {
            Unchanged.due(Towns::ordinary, -11, "copy", 3, 0, 0, 0, n);
            Unchanged.due(Towns::ordinary, -11, "copy", 0, 0, 3, 0, n);
            Unchanged.due(Towns::ordinary, -11, "copy", 3, -1, 3, -1, n);
            for (int k = 0; k < 3; k++) {
                for (int other = 0; other < 3; other++) {
                    if (other != k) {
                        Unchanged.due(Towns::ordinary, -12, "copy", k, 0, other, 0, n);
                    }
                }
            }
        }
        Unchanged.due(Towns::ordinary, -12, "copy", 0, -1, 1, 99, 1);
        int[][] index = {{-1, 0, 1}, {-1, 0, 0}, {0, -1, 1}, {0, -1, 0}, {0, 0, -1}, {10, 0, 0}, {9, 0, 1}, {0, 5, 0}, {0, 4, 1}, {0, 0, 5}, {5, 1, 4}, {6, 0, 4}, {8, 0, 2}, {0, 3, 2},
            {LEAST, 0, 1}, {0, LEAST, 1}, {0, 0, LEAST}, {MOST, 0, 1}, {0, MOST, 1}, {0, 0, MOST}, {1, 1, MOST}, {MOST, MOST, MOST}, {MOST, 0, 0}, {0, MOST, 0}};
        for (int[] w : index) {
            Unchanged.due(EdgesSheetsTest::fourBytes, -13, "copy", 0, w[0], 3, w[1], w[2]);
        }
        for (int[] w : new int[][] {{9, 4, 0}, {0, 0, 0}, {5, 2, 0}}) {
            Unchanged.due(EdgesSheetsTest::fourBytes, 0, "copy", 0, w[0], 3, w[1], w[2]);
        }
        Unchanged.due(EdgesSheetsTest::emptyRow, 0, "copy", 3, 0, 3, 0, 0);
        Unchanged.due(EdgesSheetsTest::emptyRow, -13, "copy", 3, 0, 3, 0, 1);
        Unchanged.due(EdgesSheetsTest::emptyRow, -13, "copy", 0, 0, 3, 0, 1);
        Unchanged.due(RedrawnLines::new, -11, "copy", 0, 0, 1, 0, 0);
    }

    private static void tellings() {
        Check.says("TELLING of LINES by bodies that leave their number in TRACE (an int that wraps, 0 at first, becomes 31 times it and the number) as they begin: LINE (1): how many STOPS it has. SCHOOL (2): what LINE's gives, and its FIRST. NIGHT (3): what SCHOOL's gives, and what LINE's gives (SCHOOL's left out).");
        int[] firsts = {0, 1439};
        for (int first : firsts) {
            int[] told = {8, 8 + first, 16 + first};
            int[] left = {1, 31 * 2 + 1, 31 * (31 * (31 * 3 + 2) + 1) + 1};
            for (int kind = 0; kind < 3; kind++) {
                RedrawnLines x = Check.stops(0, 0, 1, 0, 2, 0, 3, 0, 4, 0, 5, 0, 6, 0, 7, 0);
                Check.line(x, kind, first, 1, 1439, 0, 5, 1, 5, 2, 5, 3, 5, 4, 5, 5, 5, 6, 5, 7, 0);
                Check.ask(x, 0, "trace");
                Check.ask(x, told[kind], "tell", 0);
                Check.ask(x, left[kind], "trace");
            }
        }
        RedrawnLines x = Check.town();
        Check.line(x, 0, 50, 1, 60, 0, 5, 1, 0);
        Check.ask(x, 2, "tell", 0);
        Check.ask(x, 2, "tell", 0);
        Check.ask(x, 32, "trace");
        Check.ask(x, 32, "trace");
    }

    private static void hailings() {
        Check.says("HAILED by a lent body (4): its number; NIGHT ones have their own (5): 90.");
        RedrawnLines x = Check.town();
        Check.fill(x, 0, 0, 5, 1, 0);
        for (int l = 0; l < 14; l++) {
            x.line(l % 3, 0, 1, 0, 0, 2, 0, 2);
        }
        Check.ask(x, 0, "hail", 0);
        Check.ask(x, 4, "trace");
        Check.ask(x, 1, "hail", 1);
        Check.ask(x, 31 * 4 + 4, "trace");
        Check.ask(x, 90, "hail", 2);
        Check.ask(x, 31 * (31 * 4 + 4) + 5, "trace");
        Check.ask(x, 13, "hail", 13);
        Check.ask(x, 12, "hail", 12);
        Check.ask(x, 90, "hail", 11);
    }

    private static void bodiesRefused() {
        Check.says("TELLING of a LINE. UNKNOWN.");
        noLine("tell");
        Check.ask(Towns.ordinary(), 3, "tell", 0);
        Check.ask(Towns.ordinary(), 423, "tell", 1);
        Check.ask(Towns.ordinary(), 1306, "tell", 2);
        Check.says("How it is HAILED. UNKNOWN.");
        noLine("hail");
        Check.ask(Towns.ordinary(), 0, "hail", 0);
        Check.ask(Towns.ordinary(), 90, "hail", 2);
    }

    private static void noLine(String name) {
        for (int none : new int[] {-1, 3, LEAST, MOST}) {
            Unchanged.due(Towns::ordinary, -1, name, none);
        }
        Unchanged.due(Towns::full, -1, name, 14);
        Unchanged.due(RedrawnLines::new, -1, name, 0);
    }

    private static void casts() {
        Check.says("A LINE, taken as one of a kind: 1. UNKNOWN; OUTSIDE; CAST: it is none.");
        for (int l = 0; l < 3; l++) {
            for (int kind = 0; kind < 3; kind++) {
                Unchanged.due(Towns::ordinary, kind <= l ? 1 : -12, "as", l, kind);
            }
        }
        for (int kind : new int[] {-1, 3, LEAST, MOST}) {
            Unchanged.due(Towns::ordinary, -2, "as", 0, kind);
            Unchanged.due(Towns::ordinary, -2, "as", 2, kind);
            Unchanged.due(Towns::ordinary, -1, "as", 3, kind);
        }
        for (int none : new int[] {-1, 3, LEAST, MOST}) {
            Unchanged.due(Towns::ordinary, -1, "as", none, 0);
            Unchanged.due(Towns::ordinary, -1, "as", none, 2);
        }
        Unchanged.due(Towns::full, -1, "as", 14, 0);
        Unchanged.due(Towns::full, -12, "as", 13, 2);
        Unchanged.due(RedrawnLines::new, -1, "as", 0, 0);
    }
}
