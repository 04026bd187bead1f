/** Promises 1 to 8: a new object, stops, lines, days, runs, minutes, far. */
public final class LinesTest {
    public static void main(String[] args) {
        newObject();
        stops();
        lineRefusals();
        lineRows();
        days();
        ofLine();
        runs();
        minutes();
        far();
        Check.end();
    }

    private static void newObject() {
        RedrawnLines x = new RedrawnLines();
        for (int what = 0; what < 8; what++) {
            Check.due("new: many(" + what + ")", x.many(what), 0);
        }
        for (int k = 0; k < 4; k++) {
            Check.due("new: drop(" + k + ")", x.drop(k), 0);
        }
        Check.due("new: trace", x.trace(), 0);
        Check.due("new: fault", x.fault(), 0);
        Check.due("new: breach(0)", x.breach(0), 0);
        Check.due("new: fit(0, -1)", x.fit(0, -1), 0);
        Check.due("new: roster(0, -1)", x.roster(0, -1), 0);
        Check.due("new: best(0, 0, 1)", x.best(0, 0, 1), 0);
        Check.due("new: who(0, 1, 2)", x.who(0, 1, 2), 0);
        Check.due("new: seats(1)", x.seats(1), 40);
    }

    private static void stops() {
        RedrawnLines x = new RedrawnLines();
        int[][] wrong = {{-1, 0}, {41, 0}, {0, -1}, {0, 41}, {Integer.MIN_VALUE, 0}, {0, Integer.MAX_VALUE}};
        for (int[] w : wrong) {
            Check.due("stop(" + w[0] + ", " + w[1] + ")", x.stop(w[0], w[1]), -2);
        }
        for (int k = 0; k < 16; k++) {
            Check.due("stop " + k, x.stop(k % 2 * 40, k / 2 % 2 * 40), k);
        }
        Check.due("stop, full", x.stop(0, 0), -4);
        Check.due("stop, outside ahead of full", x.stop(41, 0), -2);
        Check.due("many(0)", x.many(0), 16);
    }

    private static void lineRefusals() {
        RedrawnLines x = Check.town();
        Check.due("no such sheet ahead of kind", x.line(9, 0, 1, 0, 4, 0, 0, 2), -1);
        Check.due("sheet -1", x.line(0, 0, 1, 0, -1, 0, 0, 2), -1);
        Check.due("nothing, whatever the lane", x.line(0, 0, 1, 0, 0, 1, 99, -1), -11);
        Check.due("fault", x.fault(), 1);
        Check.due("kind ahead of null", x.line(3, 0, 1, 0, 0, 0, 0, 2), -2);
        Check.due("fault of a refusal", x.fault(), 0);
        x.sheet(0, 0, 20);
        int[][] outside = {{-1, 0, 1, 0, 0}, {3, 0, 1, 0, 0}, {0, -1, 1, 0, 0}, {0, 1440, 1, 1440, 0}, {0, 0, 0, 0, 0}, {0, 0, 241, 0, 0},
            {0, 5, 1, 4, 0}, {0, 0, 1, 1440, 0}, {0, 0, 1, 0, -1}, {0, 0, 1, 0, 3}};
        for (int[] o : outside) {
            Check.due("line outside " + java.util.Arrays.toString(o), x.line(o[0], o[1], o[2], o[3], 0, o[4], 99, -1), -2);
        }
        Check.due("cast ahead of size", x.line(0, 0, 1, 0, 0, 1, 0, -1), -12);
        Check.due("fault", x.fault(), 2);
        Check.due("size ahead of index", x.line(0, 0, 1, 0, 0, 0, -1, -1), -14);
        Check.due("fault", x.fault(), 4);
        Check.due("index: i below 0", x.line(0, 0, 1, 0, 0, 0, -1, 0), -13);
        Check.due("index: i beyond, none taken", x.line(0, 0, 1, 0, 0, 0, 21, 0), -13);
        Check.due("index ahead of n", x.line(0, 0, 1, 0, 0, 0, 0, 11), -13);
        Check.due("index: n so large that twice it wraps", x.line(0, 0, 1, 0, 0, 0, 0, 1 << 30), -13);
        Check.due("index: i so large that it wraps", x.line(0, 0, 1, 0, 0, 0, Integer.MAX_VALUE, 2), -13);
        Check.due("fault", x.fault(), 3);
        Check.due("n 0 at the end", x.line(0, 0, 1, 0, 0, 0, 20, 0), -2);
        Check.due("n 1", x.line(0, 0, 1, 0, 0, 0, 0, 1), -2);
        Check.due("n 9", x.line(0, 0, 1, 0, 0, 0, 2, 9), -2);
        Check.due("fault", x.fault(), 0);
        Check.due("minutes 0 ahead of no stop", Check.line(x, 0, 0, 1, 0, 99, 0, 1, 0), -2);
        Check.due("minutes 31", Check.line(x, 0, 0, 1, 0, 0, 31, 1, 0), -2);
        Check.due("second minutes 31 ahead of first stop", Check.line(x, 0, 0, 1, 0, -1, 5, 1, 31, 2, 0), -2);
        Check.due("no stop ahead of two are one", Check.line(x, 0, 0, 1, 0, 1, 5, 1, 5, 6, 5), -1);
        Check.due("stop -1", Check.line(x, 0, 0, 1, 0, 0, 5, -1, 5), -1);
        Check.due("two are one", Check.line(x, 0, 0, 1, 0, 0, 5, 1, 5, 0, 5), -3);
        Check.due("none of these is a line", x.many(1), 0);
        for (int l = 0; l < 14; l++) {
            Check.due("line " + l, Check.line(x, 0, 0, 1, 0, 0, 5, 1, 0), l);
        }
        Check.due("two are one ahead of full", Check.line(x, 0, 0, 1, 0, 0, 5, 0, 0), -3);
        Check.due("full", Check.line(x, 0, 0, 1, 0, 0, 5, 1, 0), -4);
        Check.due("many(1)", x.many(1), 14);
    }

    private static void lineRows() {
        RedrawnLines x = Check.town();
        x.stop(1, 1);
        x.stop(2, 2);
        Check.due("largest of all", Check.line(x, 2, 1439, 240, 1439, 0, 30, 1, 30, 2, 30, 3, 30, 4, 30, 5, 30, 6, 30, 7, 99), 0);
        Check.due("its round", x.ofLine(0, 7), 203);
        Check.due("its last stop", x.ofLine(0, 17), 7);
        Check.due("beyond it", x.ofLine(0, 18), -2);
        x.sheet(0, 0, 7);
        int[] cells = {77, 5, 256 + 7, 512, 3, 2, 0};
        for (int i = 0; i < cells.length; i++) {
            x.put(0, i, cells[i]);
        }
        Check.due("of bytes from 1 on: stop 5 has the cut minutes 7", x.line(1, 10, 7, 30, 0, 0, 1, 2), 1);
        Check.due("first stop", x.ofLine(1, 10), 5);
        Check.due("second stop", x.ofLine(1, 11), 0);
        Check.due("round", x.ofLine(1, 7), 7);
        Check.due("from 4 on: a row short", x.line(1, 10, 7, 30, 0, 0, 4, 2), -13);
        Check.due("from 3 on: the last minutes are not looked at", x.line(0, 10, 7, 30, 0, 0, 3, 2), 2);
        Check.due("many(1)", x.many(1), 3);
        x.put(0, 2, 29);
        x.drop(0);
        Check.due("a line keeps its rows", x.ofLine(1, 7), 7);
    }

    private static void days() {
        RedrawnLines x = Check.town();
        Check.due("no line ahead of days", x.days(0, 5, 4), -1);
        Check.line(x, 0, 0, 1, 0, 0, 5, 1, 0);
        Check.due("as they are at first", x.days(0, 0, 59), 0);
        Check.due("other to", x.days(0, 0, 58), 1);
        Check.due("other from", x.days(0, 1, 58), 1);
        Check.due("the same", x.days(0, 1, 58), 0);
        Check.due("one day", x.days(0, 59, 59), 1);
        int[][] outside = {{-1, 5}, {0, 60}, {60, 60}, {5, 4}, {-1, -1}};
        for (int[] o : outside) {
            Check.due("days(0, " + o[0] + ", " + o[1] + ")", x.days(0, o[0], o[1]), -2);
        }
        Check.due("from", x.ofLine(0, 5), 59);
        Check.due("to", x.ofLine(0, 6), 59);
        Check.due("line -1", x.days(-1, 0, 1), -1);
        Check.due("line 1", x.days(1, 0, 1), -1);
    }

    private static void ofLine() {
        RedrawnLines x = Check.town();
        Check.line(x, 0, 100, 7, 121, 4, 3, 5, 1, 2, 0);
        Check.line(x, 1, 0, 1, 1439, 1, 1, 0, 0);
        Check.line(x, 2, 0, 240, 1439, 4, 3, 5, 1, 2, 0);
        int[][] want = {{0, 3, 100, 7, 121, 0, 59, 4, 4}, {1, 2, 0, 1, 1439, 0, 59, 1, 1440}, {2, 3, 0, 240, 1439, 0, 59, 3, 6}};
        for (int l = 0; l < want.length; l++) {
            for (int what = 0; what < want[l].length; what++) {
                Check.due("ofLine(" + l + ", " + what + ")", x.ofLine(l, what), want[l][what]);
            }
        }
        Check.due("stop 0", x.ofLine(0, 10), 4);
        Check.due("stop 1", x.ofLine(0, 11), 5);
        Check.due("stop 2", x.ofLine(0, 12), 2);
        for (int what : new int[] {-1, 9, 13, 20, Integer.MIN_VALUE, Integer.MAX_VALUE}) {
            Check.due("ofLine(0, " + what + ")", x.ofLine(0, what), -2);
        }
        Check.due("no line ahead of what", x.ofLine(3, 9), -1);
        Check.due("line -1", x.ofLine(-1, 0), -1);
    }

    private static void runs() {
        RedrawnLines x = Check.town();
        for (int kind = 0; kind < 3; kind++) {
            Check.line(x, kind, 0, 1, 0, 0, 5, 1, 0);
            x.days(kind, 3, 13);
            for (int day = 0; day < 60; day++) {
                boolean is = day >= 3 && day <= 13 && (kind != 1 || day != 5 && day != 6 && day != 12 && day != 13);
                Check.due("runs(" + kind + ", " + day + ")", x.runs(kind, day), is ? 1 : 0);
            }
        }
        Check.due("day -1", x.runs(0, -1), -2);
        Check.due("day 60", x.runs(0, 60), -2);
        Check.due("no line ahead of day", x.runs(3, 60), -1);
        Check.due("line -1", x.runs(-1, 0), -1);
    }

    private static void minutes() {
        RedrawnLines x = Check.town();
        Check.line(x, 0, 400, 15, 600, 0, 10, 1, 8, 2, 0);
        Check.line(x, 2, 1300, 20, 1439, 4, 1, 5, 9, 3, 0);
        Check.due("long before", x.minute(0, 0, 0), 400);
        Check.due("as it leaves", x.minute(0, 0, 400), 400);
        Check.due("a minute behind it", x.minute(0, 0, 401), 415);
        Check.due("the last one leaves at 595", x.minute(0, 0, 595), 595);
        Check.due("behind the last one", x.minute(0, 0, 596), -9);
        Check.due("at its end", x.minute(0, 2, 600), 613);
        Check.due("at its end, the last one", x.minute(0, 2, 613), 613);
        Check.due("at its end, behind it", x.minute(0, 2, 614), -9);
        Check.due("night: one is the least", x.minute(1, 1, 0), 1301);
        Check.due("night: one less", x.minute(1, 2, 0), 1309);
        Check.due("into the next night", Check.line(x, 0, 1439, 1, 1439, 0, 30, 1, 0), 2);
        Check.due("beyond 1439", x.minute(2, 1, 1450), 1469);
        Check.due("minute 2879", x.minute(2, 1, 2879), -9);
        Check.due("minute 2880", x.minute(2, 1, 2880), -2);
        Check.due("minute -1", x.minute(2, 1, -1), -2);
        Check.due("k beyond ahead of minute", x.minute(2, 2, -1), -1);
        Check.due("k -1", x.minute(2, -1, 0), -1);
        Check.due("no line", x.minute(3, 0, 0), -1);
        Check.due("a day on which it does not run is not asked", x.days(0, 59, 59) + x.minute(0, 0, 0), 401);
    }

    private static void far() {
        RedrawnLines x = Check.town();
        Check.due("far(0, 3)", x.far(0, 3), 30);
        Check.due("far(3, 0)", x.far(3, 0), 30);
        Check.due("far(4, 2)", x.far(4, 2), 30);
        Check.due("far(2, 5)", x.far(2, 5), 20);
        Check.due("far(5, 5)", x.far(5, 5), 0);
        Check.due("far(-1, 0)", x.far(-1, 0), -1);
        Check.due("far(0, 6)", x.far(0, 6), -1);
        Check.due("far(6, 0)", x.far(6, 0), -1);
        x.stop(40, 40);
        Check.due("far(0, 6)", x.far(0, 6), 80);
    }
}
