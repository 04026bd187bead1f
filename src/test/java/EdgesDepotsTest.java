/** Terms, part 4 (depots, drivers), and promises 20 to 25, sentence by sentence: the edges that each one names. */
public final class EdgesDepotsTest {
    private static final int LEAST = Integer.MIN_VALUE;
    private static final int MOST = Integer.MAX_VALUE;

    public static void main(String[] args) {
        countOfDepots();
        depotRefusals();
        empties();
        rooms();
        leastEmpty();
        firstFit();
        eightLines();
        fitRefusals();
        countOfDrivers();
        knowing();
        taught();
        firstRoster();
        moreLinesThanDrivers();
        rosterRefusals();
        Check.end();
    }

    private static void row(RedrawnLines x, String name, int day, int all, int... each) {
        Check.ask(x, all, name, day, -1);
        for (int l = 0; l < each.length; l++) {
            Check.ask(x, each[l], name, day, l);
        }
    }

    private static void countOfDepots() {
        Check.says("DEPOTS, 4 ever, numbered as they come: at x, y (0 .. 40 each), with ROOM (0 .. 9).");
        RedrawnLines x = Check.stops(0, 0, 40, 40);
        Check.line(x, 0, 0, 1, 0, 0, 5, 1, 0);
        int[][] as = {{0, 0, 0}, {40, 0, 9}, {0, 40, 9}, {40, 40, 1}};
        for (int d = 0; d < 4; d++) {
            Check.ask(x, d, "many", 5);
            Check.ask(x, -1, "empty", 0, d);
            Check.ask(x, d, "depot", as[d][0], as[d][1], as[d][2]);
            Check.ask(x, 80, "empty", 0, d);
        }
        Check.ask(x, 4, "many", 5);
        Check.ask(x, -4, "depot", 0, 0, 0);
        Check.ask(x, 4, "many", 5);
        row(x, "fit", 0, 80, 1);
    }

    private static void depotRefusals() {
        Check.says("A DEPOT: its number. OUTSIDE; FULL.");
        int[][] outside = {{-1, 0, 0}, {41, 0, 0}, {LEAST, 0, 0}, {MOST, 0, 0}, {0, -1, 0}, {0, 41, 0}, {0, LEAST, 0}, {0, MOST, 0}, {0, 0, -1}, {0, 0, 10}, {0, 0, LEAST}, {0, 0, MOST}};
        for (int[] o : outside) {
            Unchanged.due(Towns::ordinary, -2, "depot", o[0], o[1], o[2]);
            Unchanged.due(Towns::full, -2, "depot", o[0], o[1], o[2]);
            Unchanged.due(RedrawnLines::new, -2, "depot", o[0], o[1], o[2]);
        }
        Unchanged.due(Towns::full, -4, "depot", 0, 0, 0);
        Unchanged.due(Towns::full, -4, "depot", 40, 40, 9);
        Check.ask(Towns.ordinary(), 2, "depot", 40, 40, 9);
    }

    private static void empties() {
        Check.says("EMPTY of a LINE and a DEPOT: FAR from there to its first STOP, and from its last one.");
        RedrawnLines x = Check.stops(40, 40, 0, 0, 40, 40, 0, 0, 7, 3);
        Check.line(x, 0, 0, 1, 0, 0, 5, 1, 5, 2, 0);
        Check.line(x, 2, 0, 1, 0, 1, 5, 0, 5, 3, 0);
        Check.line(x, 1, 0, 1, 0, 4, 5, 0, 0);
        x.depot(0, 0, 1);
        x.depot(40, 40, 1);
        x.depot(10, 20, 1);
        int[][] want = {{160, 0, 100}, {0, 160, 60}, {90, 70, 70}};
        for (int l = 0; l < 3; l++) {
            for (int d = 0; d < 3; d++) {
                Check.ask(x, want[l][d], "empty", l, d);
            }
        }
        Check.says("EMPTY of a LINE and a DEPOT. UNKNOWN.");
        for (int none : new int[] {-1, LEAST, MOST}) {
            Unchanged.due(Towns::ordinary, -1, "empty", none, 0);
            Unchanged.due(Towns::ordinary, -1, "empty", 0, none);
        }
        Unchanged.due(Towns::ordinary, -1, "empty", 3, 0);
        Unchanged.due(Towns::ordinary, -1, "empty", 0, 2);
        Unchanged.due(Towns::full, -1, "empty", 14, 3);
        Unchanged.due(Towns::full, -1, "empty", 13, 4);
        Check.ask(Towns.ordinary(), 40, "empty", 2, 0);
        Check.ask(Towns.ordinary(), 20, "empty", 2, 1);
        Unchanged.due(RedrawnLines::new, -1, "empty", 0, 0);
    }

    /** So many lines from (0,0) to (10,0), of 10 minutes EMPTY to a depot at (0,0), of 30 to one at (20,0). */
    private static RedrawnLines alike(int lines) {
        RedrawnLines x = Check.town();
        Check.fill(x, 0, 0, 5, 1, 0);
        for (int l = 0; l < lines; l++) {
            x.line(0, 0, 1, 0, 0, 2, 0, 2);
        }
        return x;
    }

    private static void rooms() {
        Check.says("A FIT for a DAY: each LINE that RUNS to a DEPOT, no more than ROOM to one;");
        RedrawnLines x = alike(1);
        row(x, "fit", 0, -9, -9);
        x.depot(0, 0, 0);
        row(x, "fit", 0, -9, -9);
        x.depot(20, 0, 1);
        row(x, "fit", 0, 30, 1);
        x.line(0, 0, 1, 0, 0, 2, 0, 2);
        row(x, "fit", 0, -9, -9, -9);
        x.depot(0, 0, 1);
        row(x, "fit", 0, 40, 1, 2);
        x.line(0, 0, 1, 0, 0, 2, 0, 2);
        row(x, "fit", 0, -9, -9, -9, -9);
        x.days(1, 1, 59);
        row(x, "fit", 0, 40, 1, -9, 2);
        row(x, "fit", 1, -9, -9, -9, -9);
        x.depot(0, 0, 2);
        row(x, "fit", 1, 30, 2, 3, 3);
        for (int room = 0; room <= 9; room++) {
            x = alike(8);
            x.depot(0, 0, room);
            Check.ask(x, room >= 8 ? 80 : -9, "fit", 0, -1);
            x.depot(20, 0, 8 - Math.min(8, room));
            Check.ask(x, 10 * Math.min(8, room) + 30 * (8 - Math.min(8, room)), "fit", 0, -1);
        }
    }

    private static void leastEmpty() {
        Check.says("of the least EMPTY together; of several the first as a row by LINES of DEPOTS. (More than 8 LINES: NONE.)");
        RedrawnLines x = Check.town();
        Check.line(x, 0, 0, 1, 0, 0, 5, 1, 0);
        Check.line(x, 0, 0, 1, 0, 0, 5, 4, 0);
        x.depot(0, 0, 1);
        x.depot(12, 0, 1);
        // 10 or 14, and 10 or 34: the first one leaves the near depot to the second.
        row(x, "fit", 0, 24, 1, 0);
        x.depot(0, 0, 1);
        row(x, "fit", 0, 20, 0, 2);
    }

    private static void firstFit() {
        RedrawnLines x = alike(3);
        x.depot(0, 0, 1);
        x.depot(0, 0, 2);
        row(x, "fit", 0, 30, 0, 1, 1);
        x.depot(10, 0, 9);
        row(x, "fit", 0, 30, 0, 1, 1);
        x = alike(3);
        x.depot(20, 0, 1);
        x.depot(0, 0, 1);
        x.depot(20, 0, 1);
        row(x, "fit", 0, 70, 0, 1, 2);
        x.depot(0, 0, 1);
        row(x, "fit", 0, 50, 0, 1, 3);
    }

    private static void eightLines() {
        RedrawnLines x = alike(8);
        for (int d = 0; d < 4; d++) {
            x.depot(10 * (3 - d), 0, 9);
        }
        row(x, "fit", 0, 80, 2, 2, 2, 2, 2, 2, 2, 2);
        x.sheet(1, 1, 4);
        x.put(1, 1, 5);
        x.put(1, 2, 1);
        x.line(1, 0, 1, 0, 1, 1, 0, 2);
        row(x, "fit", 4, -9, -9, -9, -9, -9, -9, -9, -9, -9, -9);
        row(x, "fit", 5, 80, 2, 2, 2, 2, 2, 2, 2, 2, -9);
        x.days(0, 5, 59);
        row(x, "fit", 4, 80, -9, 2, 2, 2, 2, 2, 2, 2, 2);
        x = alike(14);
        x.depot(0, 0, 9);
        x.depot(0, 0, 9);
        row(x, "fit", 0, -9, -9);
        for (int l = 0; l < 6; l++) {
            x.days(l, 1, 59);
        }
        row(x, "fit", 0, 80, -9, -9, -9, -9, -9, -9, 0, 0, 0, 0, 0, 0, 0, 0);
        Check.ask(x, 1, "days", 5, 0, 59);
        Check.ask(x, -9, "fit", 0, -1);
    }

    private static void fitRefusals() {
        Check.says("A FIT for a DAY: EMPTY together (l -1), the DEPOT of a LINE (NONE: it does not RUN); NONE: there is none. OUTSIDE: day; UNKNOWN: l.");
        rowRefusals("fit");
        row(new RedrawnLines(), "fit", 0, 0);
        RedrawnLines x = Towns.ordinary();
        row(x, "fit", 0, 20 + 30 + 20, 0, 1, 1);
        row(x, "fit", 5, 20 + 20, 0, -9, 1);
        x.days(0, 5, 5);
        x.days(2, 5, 5);
        row(x, "fit", 6, 0, -9, -9, -9);
    }

    private static void rowRefusals(String name) {
        for (int day : new int[] {-1, 60, LEAST, MOST}) {
            Unchanged.due(Towns::ordinary, -2, name, day, -1);
            Unchanged.due(Towns::ordinary, -2, name, day, 0);
            Unchanged.due(Towns::ordinary, -2, name, day, -2);
            Unchanged.due(Towns::ordinary, -2, name, day, 3);
        }
        for (int none : new int[] {-2, 3, LEAST, MOST}) {
            Unchanged.due(Towns::ordinary, -1, name, 0, none);
            Unchanged.due(Towns::full, -1, name, 0, none == 3 ? 14 : none);
        }
        Unchanged.due(RedrawnLines::new, -1, name, 0, 0);
        // More lines run on day 20 than can be: the line is looked at first.
        Unchanged.due(Towns::full, -9, name, 20, -1);
        Unchanged.due(Towns::full, -9, name, 20, 13);
        Unchanged.due(Towns::full, -1, name, 20, 14);
    }

    private static void countOfDrivers() {
        Check.says("DRIVERS, 6 ever, numbered as they come: a set of LINES they know (none at first).");
        RedrawnLines x = alike(14);
        for (int d = 0; d < 6; d++) {
            Check.ask(x, d, "many", 6);
            Check.ask(x, -1, "know", d, 0, true);
            Check.ask(x, d, "driver");
            for (int l = 0; l < 14; l++) {
                Check.ask(x, 0, "know", d, l, false);
            }
        }
        Check.ask(x, 6, "many", 6);
        Check.ask(x, -4, "driver");
        Check.ask(x, 6, "many", 6);
        Check.says("A DRIVER: its number. FULL.");
        Unchanged.due(Towns::full, -4, "driver");
        Check.ask(Towns.ordinary(), 3, "driver");
        Check.ask(new RedrawnLines(), 0, "driver");
    }

    private static void knowing() {
        Check.says("A DRIVER knows a LINE, or not: 1; 0: it was so. UNKNOWN.");
        RedrawnLines x = alike(14);
        x.driver();
        x.driver();
        for (int l : new int[] {0, 13}) {
            Check.ask(x, 0, "know", 1, l, false);
            Check.ask(x, 1, "know", 1, l, true);
            Check.ask(x, 0, "know", 1, l, true);
            Check.ask(x, 0, "know", 0, l, false);
            Check.ask(x, 1, "know", 1, l, false);
            Check.ask(x, 0, "know", 1, l, false);
            Check.ask(x, 1, "know", 1, l, true);
        }
        for (boolean is : new boolean[] {true, false}) {
            for (int none : new int[] {-1, 3, LEAST, MOST}) {
                Unchanged.due(Towns::ordinary, -1, "know", none, 0, is);
                Unchanged.due(Towns::ordinary, -1, "know", 0, none, is);
            }
            Unchanged.due(Towns::full, -1, "know", 6, 13, is);
            Unchanged.due(Towns::full, -1, "know", 5, 14, is);
            Unchanged.due(RedrawnLines::new, -1, "know", 0, 0, is);
        }
        Unchanged.due(Towns::ordinary, 0, "know", 0, 0, true);
        Unchanged.due(Towns::ordinary, 0, "know", 0, 1, false);
    }

    /** Lines of 2, 3 and 8 stops, and so many drivers. */
    private static RedrawnLines drivers(int count) {
        RedrawnLines x = Check.stops(0, 0, 1, 0, 2, 0, 3, 0, 4, 0, 5, 0, 6, 0, 7, 0);
        Check.line(x, 0, 0, 1, 0, 0, 5, 1, 0);
        Check.line(x, 1, 0, 1, 0, 0, 5, 1, 5, 2, 0);
        Check.line(x, 2, 0, 1, 0, 0, 5, 1, 5, 2, 5, 3, 5, 4, 5, 5, 5, 6, 5, 7, 0);
        for (int d = 0; d < count; d++) {
            x.driver();
        }
        return x;
    }

    private static void taught() {
        Check.says("A ROSTER for a DAY: each LINE that RUNS has a DRIVER, all unlike; TAUGHT: the sum, over LINES whose DRIVER does not know it, of how many STOPS it has;");
        RedrawnLines x = drivers(3);
        row(x, "roster", 0, 13, 0, 1, 2);
        x.know(2, 0, true);
        row(x, "roster", 0, 11, 2, 0, 1);
        x.know(2, 2, true);
        row(x, "roster", 0, 5, 0, 1, 2);
        x.know(2, 1, true);
        row(x, "roster", 0, 5, 0, 1, 2);
        x.know(0, 2, true);
        row(x, "roster", 0, 2, 1, 2, 0);
        x.know(1, 0, true);
        row(x, "roster", 0, 0, 1, 2, 0);
        x.know(2, 1, false);
        row(x, "roster", 0, 3, 1, 0, 2);
        row(x, "roster", 5, 0, 1, -9, 0);
    }

    private static void firstRoster() {
        Check.says("of the least TAUGHT; of several the first as a row by LINES. (More LINES than DRIVERS: NONE.)");
        RedrawnLines x = drivers(6);
        row(x, "roster", 0, 13, 0, 1, 2);
        for (int l = 0; l < 3; l++) {
            x.know(5, l, true);
            x.know(4, l, true);
        }
        row(x, "roster", 0, 2, 0, 4, 5);
        x.know(3, 0, true);
        row(x, "roster", 0, 0, 3, 4, 5);
        x.know(4, 1, false);
        row(x, "roster", 0, 0, 3, 5, 4);
        x.know(5, 1, false);
        row(x, "roster", 0, 3, 3, 0, 4);
    }

    private static void moreLinesThanDrivers() {
        RedrawnLines x = drivers(0);
        row(x, "roster", 0, -9, -9, -9, -9);
        x.driver();
        row(x, "roster", 0, -9, -9, -9, -9);
        x.days(2, 9, 9);
        row(x, "roster", 0, -9, -9, -9, -9);
        row(x, "roster", 5, 2, 0, -9, -9);
        x.driver();
        row(x, "roster", 0, 5, 0, 1, -9);
        x = alike(6);
        for (int d = 0; d < 5; d++) {
            x.driver();
        }
        row(x, "roster", 0, -9, -9, -9, -9, -9, -9, -9);
        x.driver();
        row(x, "roster", 0, 12, 0, 1, 2, 3, 4, 5);
        for (int l = 6; l < 14; l++) {
            Check.ask(x, l, "line", 0, 0, 1, 0, 0, 2, 0, 2);
            Check.ask(x, -9, "roster", 0, -1);
            Check.ask(x, -9, "roster", 0, 0);
        }
        for (int l = 0; l < 8; l++) {
            x.days(l, 1, 59);
        }
        row(x, "roster", 0, 12, -9, -9, -9, -9, -9, -9, -9, -9, 0, 1, 2, 3, 4, 5);
    }

    private static void rosterRefusals() {
        Check.says("A ROSTER for a DAY: TAUGHT (l -1), the DRIVER of a LINE (NONE: it does not RUN); NONE: there is none. OUTSIDE: day; UNKNOWN: l.");
        rowRefusals("roster");
        row(new RedrawnLines(), "roster", 0, 0);
        RedrawnLines x = drivers(0);
        x.days(0, 5, 5);
        x.days(2, 5, 5);
        row(x, "roster", 6, 0, -9, -9, -9);
        row(Towns.ordinary(), "roster", 0, 3, 0, 1, 2);
        row(Towns.ordinary(), "roster", 5, 0, 0, -9, 2);
    }
}
