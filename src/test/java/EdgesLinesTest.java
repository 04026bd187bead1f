import java.util.function.Supplier;

/** Terms, part 1, and promises 1 to 8, sentence by sentence: the edges that each one names. */
public final class EdgesLinesTest {
    private static final int LEAST = Integer.MIN_VALUE;
    private static final int MOST = Integer.MAX_VALUE;

    public static void main(String[] args) {
        newObject();
        stops();
        stopRefusals();
        far();
        countOfLines();
        lengthsOfLines();
        timetables();
        busesOfADay();
        daysAtFirst();
        runningDays();
        nightMinutes();
        rounds();
        lineCells();
        lineRefusals();
        lineFaults();
        lineRowRefusals();
        lineOrder();
        days();
        ofLine();
        runs();
        minutes();
        Check.end();
    }

    private static void newObject() {
        Check.says("No STOPS, LINES, TEXTS, TRIPS, DEPOTS, DRIVERS, BOARDS, SHEETS.");
        Towns.full();
        RedrawnLines x = new RedrawnLines();
        for (int what = 0; what < 8; what++) {
            Check.ask(x, 0, "many", what);
        }
        Check.ask(x, -1, "far", 0, 0);
        Check.ask(x, -1, "ofLine", 0, 0);
        Check.ask(x, -1, "owed", 0, 0);
        Check.ask(x, -1, "way", 0, 0, 0);
        Check.ask(x, -1, "empty", 0, 0);
        Check.ask(x, -1, "know", 0, 0, true);
        Check.ask(x, -1, "board", 0, true);
        Check.ask(x, -1, "night", 0, 0, 0, -1);
        Check.ask(x, 0, "breach", 0);
        for (int k = 0; k < 4; k++) {
            Check.ask(x, -11, "put", k, 0, 0);
            Check.ask(x, 0, "drop", k);
        }
        Check.ask(x, 40, "seats", 40);
        Check.ask(x, 0, "trace");
    }

    private static void stops() {
        Check.says("STOPS, 16 ever, numbered as they come, at x, y (0 .. 40 each).");
        RedrawnLines x = new RedrawnLines();
        Check.ask(x, 0, "stop", 0, 0);
        Check.ask(x, 1, "many", 0);
        Check.ask(x, 1, "stop", 40, 0);
        Check.ask(x, 2, "stop", 0, 40);
        Check.ask(x, 3, "stop", 40, 40);
        Check.ask(x, 4, "stop", 40, 40);
        for (int s = 5; s < 15; s++) {
            Check.ask(x, s, "stop", s, 2 * s);
        }
        Check.ask(x, 15, "many", 0);
        Check.ask(x, 15, "stop", 1, 1);
        Check.ask(x, 16, "many", 0);
        Check.ask(x, -4, "stop", 1, 1);
        Check.ask(x, 16, "many", 0);
        Check.ask(x, 2, "far", 0, 15);
    }

    private static void stopRefusals() {
        Check.says("A STOP: its number. OUTSIDE; FULL.");
        int[][] outside = {{-1, 0}, {41, 0}, {0, -1}, {0, 41}, {LEAST, 0}, {0, LEAST}, {MOST, 0}, {0, MOST}, {-1, 41}};
        for (int[] o : outside) {
            Unchanged.due(RedrawnLines::new, -2, "stop", o[0], o[1]);
            Unchanged.due(Towns::ordinary, -2, "stop", o[0], o[1]);
            Unchanged.due(Towns::full, -2, "stop", o[0], o[1]);
        }
        Unchanged.due(Towns::full, -4, "stop", 0, 0);
        Unchanged.due(Towns::full, -4, "stop", 40, 40);
        Check.ask(Towns.ordinary(), 6, "stop", 40, 40);
    }

    private static void far() {
        Check.says("FAR of two: the sizes of dx and dy together; a WALK takes as many MINUTES.");
        RedrawnLines x = Check.stops(0, 0, 40, 0, 0, 40, 40, 40, 40, 40, 17, 30);
        int[][] want = {{0, 0, 0}, {0, 1, 40}, {1, 0, 40}, {0, 2, 40}, {2, 0, 40}, {0, 3, 80}, {3, 0, 80}, {1, 2, 80}, {2, 1, 80}, {3, 4, 0}, {5, 3, 33}, {5, 1, 53}};
        for (int[] w : want) {
            Check.ask(x, w[2], "far", w[0], w[1]);
        }
        x = Check.stops(5, 25, 15, 5, 15, 5);
        x.trip(0, 1, 100, 30, 0);
        x.trip(1, 2, 100, 0, 0);
        Check.ask(x, 130, "way", 0, 0, 0);
        Check.ask(x, 30, "way", 0, 0, 2);
        Check.ask(x, 100, "way", 1, 0, 0);
        Check.ask(x, 0, "way", 1, 0, 2);
        Check.says("FAR of two STOPS. UNKNOWN.");
        Check.ask(Towns.ordinary(), 20, "far", 3, 5);
        Check.ask(Towns.full(), 0, "far", 15, 15);
        for (int none : new int[] {-1, 6, LEAST, MOST}) {
            Unchanged.due(Towns::ordinary, -1, "far", none, 0);
            Unchanged.due(Towns::ordinary, -1, "far", 0, none);
            Unchanged.due(Towns::ordinary, -1, "far", none, none);
        }
        Unchanged.due(Towns::full, -1, "far", 16, 0);
        Unchanged.due(Towns::full, -1, "far", 0, 16);
        Unchanged.due(RedrawnLines::new, -1, "far", 0, 0);
    }

    private static void countOfLines() {
        Check.says("LINES, 14 ever, numbered as they come, of a kind: 0 LINE; 1 SCHOOL, a LINE; 2 NIGHT, a SCHOOL;");
        RedrawnLines x = Check.town();
        Check.fill(x, 0, 0, 5, 1, 0);
        for (int l = 0; l < 14; l++) {
            Check.ask(x, l, "many", 1);
            Check.ask(x, l, "line", l % 3, l, 1, l, 0, 2, 0, 2);
        }
        Check.ask(x, 14, "many", 1);
        Check.ask(x, -4, "line", 0, 0, 1, 0, 0, 2, 0, 2);
        Check.ask(x, 14, "many", 1);
        Check.ask(x, -1, "ofLine", 14, 0);
        for (int l = 0; l < 14; l++) {
            Check.ask(x, l % 3, "ofLine", l, 0);
            Check.ask(x, l, "ofLine", l, 2);
            for (int kind = 0; kind < 3; kind++) {
                Check.ask(x, kind <= l % 3 ? 1 : -12, "as", l, kind);
            }
        }
    }

    /** A town of ten stops with rows 0 .. 9 of (stop, 30 minutes) in sheet 0. */
    private static RedrawnLines tenRows() {
        RedrawnLines x = Check.stops(0, 0, 1, 0, 2, 0, 3, 0, 4, 0, 5, 0, 6, 0, 7, 0, 8, 0, 9, 0);
        x.sheet(0, 0, 20);
        for (int s = 0; s < 10; s++) {
            x.put(0, 2 * s, s);
            x.put(0, 2 * s + 1, 30);
        }
        return x;
    }

    private static void lengthsOfLines() {
        Check.says("each a row of 2 to 8 STOPS, all unlike, with MINUTES (1 .. 30) from each to the next one;");
        RedrawnLines x = tenRows();
        int[][] want = {{0, -2}, {1, -2}, {2, 0}, {3, 1}, {7, 2}, {8, 3}, {9, -2}, {10, -2}};
        for (int[] w : want) {
            Check.ask(x, w[1], "line", 0, 0, 1, 0, 0, 0, 0, w[0]);
        }
        int[] sizes = {2, 3, 7, 8};
        for (int l = 0; l < 4; l++) {
            Check.ask(x, sizes[l], "ofLine", l, 1);
            Check.ask(x, sizes[l] - 1, "ofLine", l, 9 + sizes[l]);
            Check.ask(x, -2, "ofLine", l, 10 + sizes[l]);
        }
        x = Check.town();
        int[][] legs = {{1, 1, 0}, {30, 30, 1}, {1, 30, 2}, {0, 5, -2}, {5, 0, -2}, {31, 5, -2}, {5, 31, -2}, {-1, 5, -2}, {5, LEAST, -2}, {MOST, 5, -2}, {257, 5, -2}};
        for (int[] w : legs) {
            Check.due("legs " + w[0] + ", " + w[1], Check.line(x, 0, 0, 1, 0, 0, w[0], 1, w[1], 2, 5), w[2]);
        }
        Check.due("the first and the last are one", Check.line(x, 0, 0, 1, 0, 0, 5, 1, 5, 0, 5), -3);
        Check.due("the first two are one", Check.line(x, 0, 0, 1, 0, 1, 5, 1, 5, 0, 5), -3);
        Check.due("the last two are one", Check.line(x, 0, 0, 1, 0, 0, 5, 1, 5, 1, 5), -3);
        Check.due("both of two are one", Check.line(x, 0, 0, 1, 0, 3, 5, 3, 5), -3);
        Check.due("the other way round", Check.line(x, 0, 0, 1, 0, 2, 5, 1, 5, 0, 5), 3);
        Check.ask(x, 4, "many", 1);
    }

    private static void timetables() {
        Check.says("a FIRST (0 .. 1439), EVERY (1 .. 240), a LAST (FIRST .. 1439):");
        int[][] as = {{0, 1, 0}, {0, 240, 0}, {0, 1, 1439}, {1439, 1, 1439}, {1439, 240, 1439}, {700, 7, 700}, {1438, 1, 1439}};
        RedrawnLines x = Towns.ordinary();
        for (int k = 0; k < as.length; k++) {
            Check.ask(x, 3 + k, "line", 0, as[k][0], as[k][1], as[k][2], 2, 2, 0, 2);
            for (int what = 0; what < 3; what++) {
                Check.ask(x, as[k][what], "ofLine", 3 + k, 2 + what);
            }
        }
        int[][] not = {{-1, 1, 5}, {1440, 1, 1440}, {LEAST, 1, 0}, {MOST, 1, MOST}, {0, 0, 5}, {0, -1, 5}, {0, 241, 5}, {0, LEAST, 5}, {0, MOST, 5},
            {5, 1, 4}, {1, 1, 0}, {0, 1, -1}, {0, 1, 1440}, {1439, 1, 1438}, {0, 1, MOST}, {0, 1, LEAST}};
        for (int[] n : not) {
            Unchanged.due(Towns::ordinary, -2, "line", 0, n[0], n[1], n[2], 2, 2, 0, 2);
        }
    }

    private static void busesOfADay() {
        Check.says("buses leave the first STOP at FIRST, EVERY MINUTES later, and so on, as long as it is not beyond LAST;");
        int[][] want = {{100, 10, 100, 1, 100}, {100, 10, 109, 1, 100}, {100, 10, 110, 2, 110}, {100, 10, 111, 2, 110}, {100, 10, 119, 2, 110},
            {100, 10, 120, 3, 120}, {0, 240, 1439, 6, 1200}, {0, 240, 239, 1, 0}, {0, 240, 240, 2, 240}, {0, 1, 1439, 1440, 1439}, {1439, 1, 1439, 1, 1439}, {0, 1, 0, 1, 0}};
        RedrawnLines x = Check.town();
        Check.fill(x, 0, 0, 5, 1, 0);
        for (int l = 0; l < want.length; l++) {
            int[] w = want[l];
            Check.ask(x, l, "line", 0, w[0], w[1], w[2], 0, 2, 0, 2);
            Check.ask(x, w[3], "ofLine", l, 8);
            Check.ask(x, w[0], "minute", l, 0, 0);
            Check.ask(x, w[4], "minute", l, 0, w[4]);
            Check.ask(x, -9, "minute", l, 0, w[4] + 1);
        }
        Check.says("Quotients are cut.");
        Check.ask(x, 1, "ofLine", 1, 8);
        Check.ask(x, 2, "ofLine", 4, 8);
    }

    private static void daysAtFirst() {
        Check.says("DAYS 0 .. 59;");
        RedrawnLines x = Towns.ordinary();
        Check.ask(x, -2, "runs", 2, -1);
        Check.ask(x, 1, "runs", 2, 0);
        Check.ask(x, 1, "runs", 2, 59);
        Check.ask(x, -2, "runs", 2, 60);
        Check.says("and DAYS from .. to (0 .. 59 at first).");
        x = Check.town();
        for (int kind = 0; kind < 3; kind++) {
            Check.due("line", Check.line(x, kind, 0, 1, 0, 0, 5, 1, 0), kind);
            Check.ask(x, 0, "ofLine", kind, 5);
            Check.ask(x, 59, "ofLine", kind, 6);
            Check.ask(x, 0, "days", kind, 0, 59);
            Check.ask(x, 1, "runs", kind, 0);
            Check.ask(x, 1, "runs", kind, 59);
        }
    }

    private static void runningDays() {
        Check.says("It RUNS on a DAY: a LINE, NIGHT, if it is from .. to; a SCHOOL, if it is so, and the rest of the DAY by 7 is below 5.");
        RedrawnLines x = Check.town();
        for (int kind = 0; kind < 3; kind++) {
            Check.line(x, kind, 0, 1, 0, 0, 5, 1, 0);
        }
        int[] days = {0, 3, 4, 5, 6, 7, 11, 12, 13, 14, 53, 54, 55, 56, 59};
        String school = "111001100110011";
        for (int d = 0; d < days.length; d++) {
            Check.ask(x, 1, "runs", 0, days[d]);
            Check.ask(x, school.charAt(d) - '0', "runs", 1, days[d]);
            Check.ask(x, 1, "runs", 2, days[d]);
        }
        for (int kind = 0; kind < 3; kind++) {
            Check.ask(x, 1, "days", kind, 15, 17);
            int[][] want = {{14, 0}, {15, 1}, {16, 1}, {17, 1}, {18, 0}, {0, 0}, {59, 0}};
            for (int[] w : want) {
                Check.ask(x, w[1], "runs", kind, w[0]);
            }
            Check.ask(x, 1, "days", kind, 19, 20);
            Check.ask(x, kind == 1 ? 0 : 1, "runs", kind, 19);
            Check.ask(x, kind == 1 ? 0 : 1, "runs", kind, 20);
            Check.ask(x, 0, "runs", kind, 21);
        }
    }

    private static void nightMinutes() {
        Check.says("A NIGHT one takes one MINUTE less from each STOP to the next (1 at least).");
        RedrawnLines x = Check.town();
        int[] rows = {0, 1, 1, 2, 2, 3, 3, 30, 4, 0};
        int[][] after = {{0, 1, 3, 6, 36}, {0, 1, 3, 6, 36}, {0, 1, 2, 4, 33}};
        for (int kind = 0; kind < 3; kind++) {
            Check.due("line", Check.line(x, kind, 100, 1, 100, rows), kind);
            for (int k = 0; k < 5; k++) {
                Check.ask(x, 100 + after[kind][k], "minute", kind, k, 0);
            }
            Check.ask(x, after[kind][4], "ofLine", kind, 7);
        }
    }

    private static void rounds() {
        Check.says("ROUND: MINUTES from its first STOP to its last one.");
        RedrawnLines x = tenRows();
        Check.ask(x, 0, "line", 0, 1439, 1, 1439, 0, 0, 0, 8);
        Check.ask(x, 1, "line", 2, 1439, 1, 1439, 0, 0, 0, 8);
        Check.ask(x, 210, "ofLine", 0, 7);
        Check.ask(x, 203, "ofLine", 1, 7);
        for (int kind = 0; kind < 3; kind++) {
            Check.due("two stops, a minute", Check.line(x, kind, 0, 1, 0, 0, 1, 1, 30), 2 + kind);
            Check.ask(x, 1, "ofLine", 2 + kind, 7);
        }
        Check.says("MINUTES of a DAY are counted from 0 on (beyond 1439 into the next night).");
        Check.ask(x, 0, "minute", 2, 0, 0);
        Check.ask(x, 1439, "minute", 0, 0, 1439);
        Check.ask(x, 1469, "minute", 0, 1, 1440);
        Check.ask(x, 1649, "minute", 0, 7, 1649);
        Check.ask(x, 1642, "minute", 1, 7, 0);
    }

    private static void lineCells() {
        Check.says("A LINE by n rows of two cells (STOP, MINUTES to the next one; the last ones are not looked at) of a SHEET from i on, taken as a row of a LANE: its number.");
        RedrawnLines x = Check.town();
        int[] odd = {0, 31, -1, LEAST, MOST};
        for (int k = 0; k < odd.length; k++) {
            Check.due("the last minutes " + odd[k], Check.line(x, 0, 0, 1, 0, 4, 6, 5, odd[k]), k);
            Check.ask(x, 6, "ofLine", k, 7);
        }
        for (int lane = 0; lane < 3; lane++) {
            Check.fillLane(x, lane, lane, 9, 9, 9, 3, 7, 2, 8, 1, 31);
            Check.ask(x, -13, "line", 0, 0, 1, 0, lane, lane, 4, 3);
            Check.ask(x, 5 + lane, "line", 0, 0, 1, 0, lane, lane, 3, 3);
            Check.ask(x, 15, "ofLine", 5 + lane, 7);
            int[] stops = {3, 2, 1};
            for (int k = 0; k < 3; k++) {
                Check.ask(x, stops[k], "ofLine", 5 + lane, 10 + k);
            }
        }
        Check.fillLane(x, 3, 0, 256 + 5, 512 + 30, 256, 0);
        Check.ask(x, 8, "line", 0, 0, 1, 0, 3, 0, 0, 2);
        Check.ask(x, 5, "ofLine", 8, 10);
        Check.ask(x, 0, "ofLine", 8, 11);
        Check.ask(x, 30, "ofLine", 8, 7);
        x.put(3, 0, 1);
        x.put(3, 1, 1);
        x.drop(3);
        Check.ask(x, 5, "ofLine", 8, 10);
        Check.ask(x, 30, "ofLine", 8, 7);
    }

    private static void lineRefusals() {
        Check.says("UNKNOWN: SHEET; OUTSIDE: kind, first, every, last, lane;");
        for (int none : new int[] {-1, 4, LEAST, MOST}) {
            Unchanged.due(Towns::ordinary, -1, "line", 0, 0, 1, 0, none, 2, 0, 2);
        }
        for (int kind : new int[] {-1, 3, LEAST, MOST}) {
            Unchanged.due(Towns::ordinary, -2, "line", kind, 0, 1, 0, 2, 2, 0, 2);
        }
        for (int lane : new int[] {-1, 3, LEAST, MOST}) {
            Unchanged.due(Towns::ordinary, -2, "line", 0, 0, 1, 0, 2, lane, 0, 2);
        }
        Check.ask(Towns.ordinary(), 3, "line", 0, 0, 1, 0, 2, 2, 0, 2);
        Check.ask(Towns.ordinary(), 3, "line", 2, 0, 1, 0, 2, 2, 16, 2);
    }

    private static void lineFaults() {
        Check.says("CAST (nothing is no CAST); NULL; SIZE: n below 0; INDEX; OUTSIDE: n is not 2 .. 8, MINUTES; UNKNOWN: a STOP; STATE: two are one; FULL.");
        for (int sheet = 0; sheet < 3; sheet++) {
            for (int lane = 0; lane < 3; lane++) {
                if (lane != sheet) {
                    Unchanged.due(Towns::ordinary, -12, "line", 0, 0, 1, 0, sheet, lane, 0, 2);
                }
            }
        }
        for (int lane = 0; lane < 3; lane++) {
            Unchanged.due(Towns::ordinary, -11, "line", 0, 0, 1, 0, 3, lane, 0, 2);
        }
        Unchanged.due(Towns::ordinary, -14, "line", 0, 0, 1, 0, 2, 2, 0, -1);
        Unchanged.due(Towns::ordinary, -14, "line", 0, 0, 1, 0, 2, 2, 0, LEAST);
        int[][] index = {{-1, 0}, {-1, 2}, {LEAST, 0}, {LEAST, 2}, {21, 0}, {MOST, 0}, {MOST, 2}, {MOST, MOST}, {20, 1}, {19, 1}, {17, 2}, {18, 2}, {0, 11}, {3, 9}, {0, MOST}, {0, 1 << 30}, {10, MOST}};
        for (int[] w : index) {
            Unchanged.due(Towns::ordinary, -13, "line", 0, 0, 1, 0, 2, 2, w[0], w[1]);
        }
        int[][] outside = {{0, 0}, {20, 0}, {0, 1}, {18, 1}, {0, 9}, {2, 9}, {0, 10}};
        for (int[] w : outside) {
            Unchanged.due(Towns::ordinary, -2, "line", 0, 0, 1, 0, 2, 2, w[0], w[1]);
        }
        Unchanged.due(() -> withSheet(Towns.ordinary()), -2, "line", 0, 0, 1, 0, 3, 0, 0, 0);
        Unchanged.due(() -> withSheet(Towns.ordinary()), -13, "line", 0, 0, 1, 0, 3, 0, 1, 0);
        Unchanged.due(() -> withSheet(Towns.ordinary()), -13, "line", 0, 0, 1, 0, 3, 0, 0, 1);
    }

    /** Sheet 3 with a row of these numbers, of bytes. */
    private static RedrawnLines withSheet(RedrawnLines x, int... numbers) {
        Check.fillLane(x, 3, 0, numbers);
        return x;
    }

    private static void refusedRow(long want, int... numbers) {
        Unchanged.due(() -> withSheet(Towns.ordinary(), numbers), want, "line", 0, 0, 1, 0, 3, 0, 0, numbers.length / 2);
    }

    private static void lineRowRefusals() {
        Check.says("OUTSIDE: n is not 2 .. 8, MINUTES; UNKNOWN: a STOP; STATE: two are one; FULL.");
        refusedRow(-2, 0, 0, 1, 0);
        refusedRow(-2, 0, 31, 1, 0);
        refusedRow(-2, 0, -1, 1, 0);
        refusedRow(-2, 0, 5, 1, 0, 2, 0);
        refusedRow(-2, 0, 5, 1, 31, 2, 0);
        refusedRow(-1, -1, 5, 1, 0);
        refusedRow(-1, 6, 5, 1, 0);
        refusedRow(-1, 0, 5, -1, 0);
        refusedRow(-1, 0, 5, 6, 0);
        refusedRow(-1, 0, 5, 6, 5, 1, 0);
        refusedRow(-3, 0, 5, 0, 5);
        refusedRow(-3, 0, 5, 1, 5, 0, 5);
        refusedRow(-3, 5, 5, 5, 5);
        Check.due("the last stop and the least and most minutes", Check.line(Towns.ordinary(), 0, 0, 1, 0, 5, 1, 4, 30, 0, 0), 3);
        Unchanged.due(Towns::full, -4, "line", 0, 0, 1, 0, 2, 2, 0, 2);
        Unchanged.due(Towns::full, -4, "line", 2, 1439, 240, 1439, 2, 2, 16, 8);
    }

    /** Each pair of neighbours in the order told, both at once. */
    private static void lineOrder() {
        Check.says("of several the first in the order in which a call's line tells them.");
        Supplier<RedrawnLines> town = Towns::ordinary;
        Unchanged.due(town, -1, "line", 3, 0, 1, 0, 4, 2, 0, 2);
        Unchanged.due(town, -1, "line", 0, 0, 1, 0, 4, 3, -1, -1);
        Unchanged.due(town, -2, "line", 0, 0, 1, 0, 2, 3, -1, -1);
        Unchanged.due(town, -2, "line", 3, 0, 1, 0, 3, 0, 0, 2);
        Unchanged.due(town, -2, "line", 0, 0, 0, 0, 0, 1, 0, 2);
        Unchanged.due(town, -2, "line", 0, 9, 1, 8, 3, 0, 0, -1);
        Unchanged.due(town, -12, "line", 0, 0, 1, 0, 0, 1, 0, -1);
        Unchanged.due(town, -12, "line", 0, 0, 1, 0, 0, 1, -1, 0);
        Unchanged.due(town, -11, "line", 0, 0, 1, 0, 3, 1, -1, -1);
        Unchanged.due(town, -14, "line", 0, 0, 1, 0, 2, 2, -1, -1);
        Unchanged.due(town, -14, "line", 0, 0, 1, 0, 2, 2, 21, -1);
        Unchanged.due(town, -13, "line", 0, 0, 1, 0, 2, 2, -1, 1);
        Unchanged.due(town, -13, "line", 0, 0, 1, 0, 2, 2, 0, 11);
        refusedRow(-2, 9, 5);
        refusedRow(-2, 9, 0, 9, 0);
        refusedRow(-2, 9, 5, 1, 31, 2, 0);
        refusedRow(-1, 0, 5, 0, 5, 6, 5);
        refusedRow(-1, 6, 5, 6, 5);
        Supplier<RedrawnLines> twice = () -> withSheet(Towns.full(), 0, 5, 0, 5, 16, 31, 1, 0);
        Unchanged.due(twice, -3, "line", 0, 0, 1, 0, 3, 0, 0, 2);
        Unchanged.due(twice, -1, "line", 0, 0, 1, 0, 3, 0, 2, 2);
        Unchanged.due(twice, -2, "line", 0, 0, 1, 0, 3, 0, 4, 2);
        Unchanged.due(twice, -2, "line", 0, 0, 1, 0, 3, 0, 0, 1);
        Unchanged.due(twice, -13, "line", 0, 0, 1, 0, 3, 0, 0, 5);
        Unchanged.due(twice, -2, "line", 3, 0, 1, 0, 3, 0, 0, 2);
    }

    private static void days() {
        Check.says("A LINE has DAYS from .. to: 1; 0: it had these. UNKNOWN; OUTSIDE: days (to is ahead of from, too).");
        RedrawnLines x = Towns.ordinary();
        int[][] want = {{0, 40, 0}, {0, 59, 1}, {0, 59, 0}, {0, 0, 1}, {0, 0, 0}, {59, 59, 1}, {58, 59, 1}, {58, 58, 1}, {58, 58, 0}};
        for (int[] w : want) {
            Check.ask(x, w[2], "days", 0, w[0], w[1]);
            Check.ask(x, w[0], "ofLine", 0, 5);
            Check.ask(x, w[1], "ofLine", 0, 6);
        }
        Check.ask(x, 0, "days", 2, 0, 59);
        int[][] outside = {{-1, 5}, {-1, -1}, {0, 60}, {60, 60}, {59, 60}, {5, 4}, {59, 0}, {1, 0}, {LEAST, 5}, {5, MOST}, {MOST, LEAST}, {5, -1}, {60, 59}};
        for (int[] w : outside) {
            Unchanged.due(Towns::ordinary, -2, "days", 0, w[0], w[1]);
            Unchanged.due(Towns::ordinary, -1, "days", 3, w[0], w[1]);
        }
        for (int none : new int[] {-1, 3, LEAST, MOST}) {
            Unchanged.due(Towns::ordinary, -1, "days", none, 3, 4);
        }
        Unchanged.due(Towns::full, -1, "days", 14, 3, 4);
        Check.ask(Towns.full(), 1, "days", 13, 3, 4);
    }

    private static void ofLine() {
        Check.says("Of a LINE: 0 kind, 1 how many STOPS, 2 FIRST, 3 EVERY, 4 LAST, 5 from, 6 to, 7 ROUND, 8 how many buses leave a DAY, 10 and k: its k-th STOP. UNKNOWN; OUTSIDE.");
        RedrawnLines x = Towns.ordinary();
        int[][] want = {{0, 3, 400, 15, 600, 0, 40, 18, 14, -2, 0, 1, 2, -2}, {1, 3, 420, 30, 500, 0, 59, 17, 3, -2, 2, 3, 4, -2},
            {2, 3, 1300, 20, 1439, 0, 59, 9, 7, -2, 4, 5, 3, -2}};
        for (int l = 0; l < 3; l++) {
            for (int what = 0; what < want[l].length; what++) {
                Check.ask(x, want[l][what], "ofLine", l, what);
            }
        }
        for (int what : new int[] {-1, 9, 13, 17, 18, LEAST, LEAST + 10, MOST}) {
            Unchanged.due(Towns::ordinary, -2, "ofLine", 0, what);
            Unchanged.due(Towns::ordinary, -1, "ofLine", 3, what);
        }
        for (int none : new int[] {-1, 3, LEAST, MOST}) {
            Unchanged.due(Towns::ordinary, -1, "ofLine", none, 0);
        }
        x = Towns.full();
        Check.ask(x, 8, "ofLine", 6, 1);
        Check.ask(x, 13, "ofLine", 6, 17);
        Check.ask(x, -2, "ofLine", 6, 18);
        Check.ask(x, 1, "ofLine", 13, 0);
        Unchanged.due(Towns::full, -1, "ofLine", 14, 0);
    }

    private static void runs() {
        Check.says("Whether a LINE RUNS on a DAY: 1, 0. UNKNOWN; OUTSIDE.");
        RedrawnLines x = Towns.ordinary();
        int[][] want = {{0, 0, 1}, {0, 40, 1}, {0, 41, 0}, {1, 4, 1}, {1, 5, 0}, {2, 59, 1}};
        for (int[] w : want) {
            Check.ask(x, w[2], "runs", w[0], w[1]);
        }
        for (int day : new int[] {-1, 60, LEAST, MOST}) {
            Unchanged.due(Towns::ordinary, -2, "runs", 0, day);
            Unchanged.due(Towns::ordinary, -1, "runs", 3, day);
        }
        for (int none : new int[] {-1, 3, LEAST, MOST}) {
            Unchanged.due(Towns::ordinary, -1, "runs", none, 0);
        }
        Unchanged.due(Towns::full, -1, "runs", 14, 0);
    }

    private static void minutes() {
        Check.says("The MINUTE of its first bus at its k-th STOP that is there at or behind a MINUTE; NONE: there is none. UNKNOWN: LINE, k; OUTSIDE: minute is not 0 .. 2879.");
        RedrawnLines x = Towns.ordinary();
        int[][] want = {{0, 0, 0, 400}, {0, 0, 399, 400}, {0, 0, 400, 400}, {0, 0, 401, 415}, {0, 0, 415, 415}, {0, 0, 595, 595}, {0, 0, 596, -9}, {0, 0, 2879, -9},
            {0, 1, 0, 410}, {0, 1, 400, 410}, {0, 1, 410, 410}, {0, 1, 411, 425}, {0, 1, 605, 605}, {0, 1, 606, -9}, {0, 2, 418, 418}, {0, 2, 419, 433}, {0, 2, 613, 613},
            {0, 2, 614, -9}, {2, 1, 1301, 1301}, {2, 1, 1302, 1321}, {2, 2, 1429, 1429}, {2, 2, 1430, -9}};
        for (int[] w : want) {
            Check.ask(x, w[3], "minute", w[0], w[1], w[2]);
        }
        for (int minute : new int[] {-1, 2880, LEAST, MOST}) {
            Unchanged.due(Towns::ordinary, -2, "minute", 0, 0, minute);
            Unchanged.due(Towns::ordinary, -1, "minute", 0, 3, minute);
            Unchanged.due(Towns::ordinary, -1, "minute", 3, 0, minute);
        }
        for (int none : new int[] {-1, 3, LEAST, MOST}) {
            Unchanged.due(Towns::ordinary, -1, "minute", 0, none, 0);
            Unchanged.due(Towns::ordinary, -1, "minute", none, 0, 0);
        }
        x = Towns.full();
        Check.ask(x, 360 + 35, "minute", 6, 7, 0);
        Unchanged.due(Towns::full, -1, "minute", 6, 8, 0);
        Unchanged.due(Towns::full, -1, "minute", 14, 0, 0);
    }
}
