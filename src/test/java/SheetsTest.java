/** Promises 32 to 42: sheets, cells, copies, telling, hailing, casts, trace, fault, many. */
public final class SheetsTest {
    private static final long LOST = Long.MIN_VALUE;

    public static void main(String[] args) {
        sheets();
        puts();
        cells();
        copies();
        tellings();
        kinds();
        faults();
        manies();
        Check.end();
    }

    private static void sheets() {
        RedrawnLines x = new RedrawnLines();
        Check.due("no such sheet ahead of lane", x.sheet(4, 9, -1), -1);
        Check.due("sheet -1", x.sheet(-1, 0, 0), -1);
        Check.due("lane 3 ahead of size", x.sheet(0, 3, -1), -2);
        Check.due("lane -1", x.sheet(0, -1, 0), -2);
        Check.due("n 61", x.sheet(0, 0, 61), -2);
        Check.due("fault", x.fault(), 0);
        Check.due("n -1", x.sheet(0, 0, -1), -14);
        Check.due("fault", x.fault(), 4);
        Check.due("it has nothing still", x.drop(0), 0);
        Check.due("n 0", x.sheet(0, 0, 0), 1);
        Check.due("fault", x.fault(), 0);
        Check.due("a row of none is something", x.drop(0), 1);
        Check.due("dropped", x.drop(0), 0);
        Check.due("n 60", x.sheet(3, 2, 60), 1);
        Check.due("last cell", x.put(3, 59, 8), 1);
        Check.due("a size below 0", x.sheet(3, 0, -5), -14);
        Check.due("changes nothing", x.cell(3, 59, 2), 8);
        Check.due("a new row", x.sheet(3, 2, 60), 1);
        Check.due("of 0", x.cell(3, 59, 2), 0);
        x.put(3, 5, 8);
        x.drop(3);
        x.sheet(3, 2, 6);
        Check.due("of 0 behind drop, too", x.cell(3, 5, 2), 0);
        Check.due("shorter", x.cell(3, 6, 2), LOST);
        Check.due("drop(4)", x.drop(4), -1);
        Check.due("drop(-1)", x.drop(-1), -1);
    }

    private static void puts() {
        RedrawnLines x = new RedrawnLines();
        Check.due("no such sheet", x.put(4, 0, 0), -1);
        Check.due("sheet -1", x.put(-1, 0, 0), -1);
        Check.due("nothing ahead of index", x.put(0, -1, 0), -11);
        Check.due("fault", x.fault(), 1);
        int[][] values = {{127, 127, 127, 127}, {128, -128, 128, 128}, {300, 44, 300, 300}, {-129, 127, -129, -129}, {70001, 113, 4465, 70001},
            {32768, 0, -32768, 32768}, {Integer.MIN_VALUE, 0, 0, Integer.MIN_VALUE}, {Integer.MAX_VALUE, -1, -1, Integer.MAX_VALUE}};
        for (int lane = 0; lane < 3; lane++) {
            x.sheet(lane, lane, 9);
            for (int[] v : values) {
                Check.due("put " + v[0], x.put(lane, 8, v[0]), 1);
                Check.due("of lane " + lane, x.cell(lane, 8, lane), v[lane + 1]);
            }
            Check.due("put at -1", x.put(lane, -1, 1), -13);
            Check.due("put at 9", x.put(lane, 9, 1), -13);
            Check.due("fault", x.fault(), 3);
            Check.due("its neighbour", x.cell(lane, 7, lane), 0);
        }
    }

    private static void cells() {
        RedrawnLines x = new RedrawnLines();
        Check.due("nothing", x.cell(0, -1, 1), LOST);
        Check.due("fault", x.fault(), 1);
        Check.due("no such sheet", x.cell(4, 0, 0), LOST);
        Check.due("fault", x.fault(), 0);
        x.cell(0, 0, 0);
        Check.due("lane 3 ahead of null", x.cell(0, 0, 3), LOST);
        Check.due("fault", x.fault(), 0);
        x.cell(0, 0, 0);
        Check.due("lane -1", x.cell(0, 0, -1), LOST);
        Check.due("fault", x.fault(), 0);
        x.sheet(0, 0, 3);
        Check.due("cast ahead of index", x.cell(0, 3, 2), LOST);
        Check.due("fault", x.fault(), 2);
        Check.due("index 3", x.cell(0, 3, 0), LOST);
        Check.due("fault", x.fault(), 3);
        Check.due("index -1", x.cell(0, -1, 0), LOST);
        Check.due("fault", x.fault(), 3);
        Check.due("cell", x.cell(0, 2, 0), 0);
        Check.due("fault", x.fault(), 0);
        Check.due("sheet -1", x.cell(-1, 0, 0), LOST);
    }

    private static void copies() {
        RedrawnLines x = new RedrawnLines();
        Check.due("no such sheet ahead of null", x.copy(0, 0, 4, 0, 0), -1);
        Check.due("sheet -1", x.copy(-1, 0, 0, 0, 0), -1);
        Check.due("nothing", x.copy(0, 0, 1, 0, -1), -11);
        Check.due("fault", x.fault(), 1);
        x.sheet(0, 1, 5);
        Check.due("the other has nothing", x.copy(0, 0, 1, 0, -1), -11);
        Check.due("the first has nothing", x.copy(1, 0, 0, 0, -1), -11);
        x.sheet(1, 2, 3);
        Check.due("cast ahead of index", x.copy(0, -1, 1, 0, 0), -12);
        Check.due("fault", x.fault(), 2);
        x.sheet(1, 1, 3);
        int[][] index = {{-1, 0, 0}, {0, -1, 0}, {0, 0, -1}, {3, 0, 3}, {0, 1, 3}, {6, 0, 0}, {0, 4, 0}, {1, 1, Integer.MAX_VALUE}, {Integer.MAX_VALUE, 0, 1}};
        for (int[] i : index) {
            Check.due("copy index " + java.util.Arrays.toString(i), x.copy(0, i[0], 1, i[1], i[2]), -13);
            Check.due("fault", x.fault(), 3);
        }
        Check.due("none, at both ends", x.copy(0, 5, 1, 3, 0), 0);
        Check.due("fault", x.fault(), 0);
        for (int i = 0; i < 5; i++) {
            x.put(0, i, 10 + i);
        }
        Check.due("three", x.copy(0, 2, 1, 0, 3), 3);
        Check.due("all of the other", x.cell(1, 0, 1) * 10000 + x.cell(1, 1, 1) * 100 + x.cell(1, 2, 1), 121314);
        Check.due("the same, later", x.copy(0, 0, 0, 1, 4), 4);
        long[] later = {10, 10, 11, 12, 13};
        for (int i = 0; i < 5; i++) {
            Check.due("as they were, " + i, x.cell(0, i, 1), later[i]);
        }
        Check.due("the same, earlier", x.copy(0, 1, 0, 0, 4), 4);
        long[] earlier = {10, 11, 12, 13, 13};
        for (int i = 0; i < 5; i++) {
            Check.due("as they were, " + i, x.cell(0, i, 1), earlier[i]);
        }
    }

    private static void tellings() {
        RedrawnLines x = Check.town();
        Check.line(x, 0, 7, 1, 7, 0, 5, 1, 0);
        Check.line(x, 1, 100, 1, 100, 0, 5, 1, 5, 2, 0);
        Check.line(x, 2, 1000, 1, 1000, 0, 5, 1, 5, 2, 5, 3, 0);
        Check.due("tell, no line", x.tell(3), -1);
        Check.due("tell, line -1", x.tell(-1), -1);
        Check.due("hail, no line", x.hail(3), -1);
        Check.due("hail, line -1", x.hail(-1), -1);
        Check.due("no body began", x.trace(), 0);
        int trace = 0;
        Check.due("a line tells", x.tell(0), 2);
        trace = 31 * trace + 1;
        Check.due("trace", x.trace(), trace);
        Check.due("a school tells", x.tell(1), 103);
        trace = 31 * (31 * trace + 2) + 1;
        Check.due("trace", x.trace(), trace);
        Check.due("a night tells", x.tell(2), 1008);
        trace = 31 * (31 * (31 * (31 * trace + 3) + 2) + 1) + 1;
        Check.due("trace", x.trace(), trace);
        int[] hails = {0, 1, 90};
        for (int l = 0; l < 3; l++) {
            Check.due("hail(" + l + ")", x.hail(l), hails[l]);
            trace = 31 * trace + (l == 2 ? 5 : 4);
            Check.due("trace, it wraps", x.trace(), trace);
        }
        x.days(2, 9, 9);
        x.as(2, 0);
        Check.due("a day, a cast change nothing of it", x.tell(2), 1008);
    }

    private static void kinds() {
        RedrawnLines x = Check.town();
        for (int kind = 0; kind < 3; kind++) {
            Check.line(x, kind, 0, 1, 0, 0, 5, 1, 0);
        }
        int[][] want = {{1, -12, -12}, {1, 1, -12}, {1, 1, 1}};
        for (int l = 0; l < 3; l++) {
            for (int kind = 0; kind < 3; kind++) {
                Check.due("as(" + l + ", " + kind + ")", x.as(l, kind), want[l][kind]);
                Check.due("fault", x.fault(), want[l][kind] == 1 ? 0 : 2);
            }
        }
        Check.due("kind 3", x.as(0, 3), -2);
        Check.due("kind -1", x.as(2, -1), -2);
        Check.due("no line ahead of kind", x.as(3, 3), -1);
        Check.due("line -1", x.as(-1, 0), -1);
        Check.due("casts leave no trace", x.trace(), 0);
    }

    /** Each call that names faults begins with none; each other call leaves it as it was. */
    private static void faults() {
        RedrawnLines x = Check.town();
        Check.line(x, 0, 0, 1, 0, 0, 5, 1, 0);
        x.trip(0, 1, 0, 0, 0);
        x.depot(0, 0, 1);
        x.driver();
        x.as(0, 1);
        for (int call = 0; call < 34; call++) {
            other(x, call);
            Check.due("fault behind call " + call, x.fault(), 2);
        }
        for (int call = 0; call < 14; call++) {
            x.as(0, 1);
            named(x, call);
            Check.due("fault behind a named call " + call, x.fault(), 0);
        }
    }

    private static void other(RedrawnLines x, int call) {
        switch (call) {
            case 0: x.stop(0, 0); break;
            case 1: x.stop(-1, 0); break;
            case 2: x.days(9, 0, 0); break;
            case 3: x.ofLine(0, 0); break;
            case 4: x.runs(0, 0); break;
            case 5: x.minute(0, 0, 0); break;
            case 6: x.far(0, 0); break;
            case 7: x.owed(0, 0); break;
            case 8: x.why(0, 0); break;
            case 9: x.served(0, 0); break;
            case 10: x.breach(0); break;
            case 11: x.trip(0, 0, 0, 0, 0); break;
            case 12: x.way(0, 0, 0); break;
            case 13: x.lose(0, 0, 0); break;
            case 14: x.who(0, 0, 0); break;
            case 15: x.offer(0); break;
            case 16: x.best(0, 0, 0); break;
            case 17: x.depot(0, 0, 0); break;
            case 18: x.empty(0, 0); break;
            case 19: x.fit(0, -1); break;
            case 20: x.driver(); break;
            case 21: x.know(0, 0, true); break;
            case 22: x.roster(0, -1); break;
            case 23: x.board(0, true); break;
            case 24: x.night(0, 0, 0, -1); break;
            case 25: x.waiting(0, 0, 1); break;
            case 26: x.seats(9); break;
            case 27: x.standing(0, 0, 0); break;
            case 28: x.extra(0); break;
            case 29: x.drop(9); break;
            case 30: x.drop(0); break;
            case 31: x.tell(0); break;
            case 32: x.hail(0); break;
            default: x.trace(); x.many(0); break;
        }
    }

    private static void named(RedrawnLines x, int call) {
        switch (call) {
            case 0: x.line(0, 0, 1, 0, 9, 0, 0, 2); break;
            case 1: x.line(0, 0, 1, 0, 3, 2, 0, 2); break;
            case 2: x.text(9, 0, 0, 0); break;
            case 3: x.text(3, 2, 0, 1); break;
            case 4: x.sheet(9, 0, 0); break;
            case 5: x.sheet(2, 2, 4); break;
            case 6: x.put(9, 0, 0); break;
            case 7: x.put(2, 0, 0); break;
            case 8: x.cell(9, 0, 0); break;
            case 9: x.cell(2, 0, 2); break;
            case 10: x.copy(9, 0, 0, 0, 0); break;
            case 11: x.copy(2, 0, 2, 0, 1); break;
            case 12: x.as(9, 0); break;
            default: x.as(0, 0); break;
        }
    }

    private static void manies() {
        RedrawnLines x = Check.town();
        for (int l = 0; l < 7; l++) {
            Check.line(x, 0, 0, 1, 0, 0, 5, 1, 0);
        }
        for (int k = 0; k < 5; k++) {
            Check.text(x, "s0>1@0-59");
        }
        for (int k = 0; k < 4; k++) {
            x.trip(0, 0, 0, 0, 0);
        }
        for (int k = 0; k < 3; k++) {
            x.offer(k);
        }
        x.depot(0, 0, 0);
        x.depot(0, 0, 0);
        x.driver();
        x.board(0, true);
        x.board(1, true);
        x.board(0, false);
        x.board(2, true);
        x.board(5, true);
        int[] want = {6, 7, 5, 4, 3, 2, 1, 3};
        for (int what = 0; what < 8; what++) {
            Check.due("many(" + what + ")", x.many(what), want[what]);
        }
        Check.due("many(8)", x.many(8), -2);
        Check.due("many(-1)", x.many(-1), -2);
    }
}
