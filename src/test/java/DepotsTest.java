/** Promises 20 to 31: depots, fits, drivers, rosters, boards, nights, queues. */
public final class DepotsTest {
    public static void main(String[] args) {
        depots();
        fits();
        manyFits();
        drivers();
        rosters();
        boards();
        nights();
        nightOrders();
        queues();
        Check.end();
    }

    private static void depots() {
        RedrawnLines x = Check.town();
        for (int[] o : new int[][] {{-1, 0, 0}, {41, 0, 0}, {0, -1, 0}, {0, 41, 0}, {0, 0, -1}, {0, 0, 10}}) {
            Check.due("depot outside", x.depot(o[0], o[1], o[2]), -2);
        }
        Check.line(x, 0, 0, 1, 0, 0, 5, 4, 5, 2, 0);
        Check.due("empty, no depot", x.empty(0, 0), -1);
        Check.due("depot 0", x.depot(0, 0, 0), 0);
        Check.due("depot 1", x.depot(40, 40, 9), 1);
        Check.due("depot 2", x.depot(20, 3, 1), 2);
        Check.due("depot 3", x.depot(0, 0, 1), 3);
        Check.due("outside ahead of full", x.depot(0, 0, 10), -2);
        Check.due("full", x.depot(0, 0, 0), -4);
        Check.due("many(5)", x.many(5), 4);
        Check.due("empty(0, 0)", x.empty(0, 0), 20);
        Check.due("empty(0, 1)", x.empty(0, 1), 140);
        Check.due("empty(0, 2)", x.empty(0, 2), 26);
        Check.due("empty, no line", x.empty(1, 0), -1);
        Check.due("empty, line -1", x.empty(-1, 0), -1);
        Check.due("empty, depot 4", x.empty(0, 4), -1);
        Check.due("empty, depot -1", x.empty(0, -1), -1);
    }

    private static void fit(RedrawnLines x, int day, int all, int... row) {
        Check.due("fit(" + day + ", -1)", x.fit(day, -1), all);
        for (int l = 0; l < row.length; l++) {
            Check.due("fit(" + day + ", " + l + ")", x.fit(day, l), row[l]);
        }
    }

    private static void fits() {
        RedrawnLines x = Check.town();
        Check.due("day ahead of line", x.fit(60, 5), -2);
        Check.due("day -1", x.fit(-1, -1), -2);
        Check.due("no line", x.fit(0, 0), -1);
        Check.due("line -2", x.fit(0, -2), -1);
        fit(x, 0, 0);
        Check.line(x, 0, 0, 1, 0, 0, 5, 1, 0);
        Check.line(x, 1, 0, 1, 0, 0, 5, 1, 0);
        Check.line(x, 0, 0, 1, 0, 2, 5, 3, 0);
        fit(x, 0, -9, -9, -9, -9);
        x.depot(20, 0, 1);
        fit(x, 0, -9, -9, -9, -9);
        x.days(2, 0, 4);
        fit(x, 5, 30, 0, -9, -9);
        fit(x, 0, -9, -9, -9, -9);
        x.depot(0, 0, 1);
        fit(x, 0, -9, -9, -9, -9);
        fit(x, 7, 40, 0, 1, -9);
        x.depot(10, 0, 9);
        fit(x, 0, 30, 1, 2, 0);
        fit(x, 5, 10, 1, -9, -9);
        x.depot(0, 0, 9);
        fit(x, 0, 30, 1, 2, 0);
        x.days(0, 9, 9);
        x.days(1, 9, 9);
        fit(x, 40, 0, -9, -9, -9);
    }

    private static void manyFits() {
        RedrawnLines x = Check.town();
        x.depot(20, 10, 3);
        x.depot(0, 0, 2);
        x.depot(0, 0, 9);
        for (int l = 0; l < 8; l++) {
            Check.line(x, 0, 0, 1, 0, l % 2 * 2, 5, l % 2 * 2 + 1, 0);
        }
        // To (0,0): 10 from the lines of even number, 50 from the odd ones; to (20,10): 50 and 10.
        fit(x, 0, 110 + 10, 1, 0, 1, 0, 2, 0, 2, 2);
        Check.line(x, 1, 0, 1, 0, 0, 5, 1, 0);
        fit(x, 5, 120, 1, 0, 1, 0, 2, 0, 2, 2, -9);
        fit(x, 0, -9, -9, -9, -9, -9, -9, -9, -9, -9, -9);
        x.days(0, 1, 59);
        fit(x, 0, 120, -9, 0, 1, 0, 1, 0, 2, 2, 2);
    }

    private static void drivers() {
        RedrawnLines x = Check.town();
        Check.line(x, 0, 0, 1, 0, 0, 5, 1, 0);
        Check.due("know, no driver", x.know(0, 0, true), -1);
        for (int d = 0; d < 6; d++) {
            Check.due("driver " + d, x.driver(), d);
        }
        Check.due("full", x.driver(), -4);
        Check.due("many(6)", x.many(6), 6);
        Check.due("it did not", x.know(5, 0, false), 0);
        Check.due("it does", x.know(5, 0, true), 1);
        Check.due("it did", x.know(5, 0, true), 0);
        Check.due("no more", x.know(5, 0, false), 1);
        Check.due("driver -1", x.know(-1, 0, true), -1);
        Check.due("driver 6", x.know(6, 0, true), -1);
        Check.due("line -1", x.know(0, -1, true), -1);
        Check.due("line 1", x.know(0, 1, true), -1);
    }

    private static void roster(RedrawnLines x, int day, int all, int... row) {
        Check.due("roster(" + day + ", -1)", x.roster(day, -1), all);
        for (int l = 0; l < row.length; l++) {
            Check.due("roster(" + day + ", " + l + ")", x.roster(day, l), row[l]);
        }
    }

    private static void rosters() {
        RedrawnLines x = Check.town();
        Check.due("day ahead of line", x.roster(60, 5), -2);
        Check.due("day -1", x.roster(-1, -1), -2);
        Check.due("no line", x.roster(0, 0), -1);
        Check.due("line -2", x.roster(0, -2), -1);
        roster(x, 0, 0);
        Check.line(x, 0, 0, 1, 0, 0, 5, 1, 0);
        Check.line(x, 1, 0, 1, 0, 0, 5, 1, 5, 2, 0);
        Check.line(x, 0, 0, 1, 0, 2, 5, 3, 5, 4, 5, 5, 0);
        roster(x, 0, -9, -9, -9, -9);
        x.driver();
        x.driver();
        roster(x, 0, -9, -9, -9, -9);
        roster(x, 5, 6, 0, -9, 1);
        x.know(0, 2, true);
        roster(x, 5, 2, 1, -9, 0);
        x.driver();
        roster(x, 0, 5, 1, 2, 0);
        x.know(0, 0, true);
        x.know(0, 1, true);
        x.know(1, 2, true);
        roster(x, 0, 2, 2, 0, 1);
        x.know(2, 1, true);
        roster(x, 0, 0, 0, 2, 1);
        x.know(1, 2, false);
        roster(x, 0, 2, 1, 2, 0);
        for (int l = 3; l < 9; l++) {
            Check.line(x, 0, 0, 1, 0, 0, 5, 1, 0);
            x.days(l, 20, 20);
        }
        roster(x, 20, -9, -9, -9, -9, -9, -9, -9, -9, -9, -9);
        roster(x, 0, 2, 1, 2, 0, -9);
    }

    private static void boards() {
        RedrawnLines x = Check.town();
        x.stop(1, 1);
        Check.due("no stop", x.board(7, true), -1);
        Check.due("stop -1", x.board(-1, true), -1);
        Check.due("it has none", x.board(0, false), 0);
        for (int s = 0; s < 6; s++) {
            Check.due("board " + s, x.board(s, true), 1);
        }
        Check.due("full", x.board(6, true), -4);
        Check.due("it has none, full or not", x.board(6, false), 0);
        Check.due("it has one, full or not", x.board(3, true), 0);
        Check.due("many(7)", x.many(7), 6);
        Check.due("none more", x.board(3, false), 1);
        Check.due("many(7)", x.many(7), 5);
        Check.due("another", x.board(6, true), 1);
    }

    private static void night(RedrawnLines x, int day, int stop, int minute, int... want) {
        for (int k = -1; k < want.length - 1; k++) {
            Check.due("night(" + day + ", " + stop + ", " + minute + ", " + k + ")", x.night(day, stop, minute, k), want[k + 1]);
        }
    }

    private static void nights() {
        RedrawnLines x = Check.town();
        night(x, 0, 0, 2879, 2879);
        Check.due("k 0, no board", x.night(0, 0, 0, 0), -1);
        Check.due("no stop ahead of day", x.night(59, 6, 0, -1), -1);
        Check.due("k ahead of day", x.night(59, 0, 0, -2), -1);
        for (int[] o : new int[][] {{-1, 0}, {59, 0}, {0, -1}, {0, 2880}}) {
            Check.due("night outside", x.night(o[0], 0, o[1], -1), -2);
        }
        x.board(2, true);
        night(x, 58, 0, 100, 125, 2);
        Check.line(x, 0, 400, 15, 600, 0, 10, 1, 8, 2, 0);
        // Its last bus is there at 613, its first one at 418.
        night(x, 0, 2, 0, 618, 2);
        night(x, 0, 2, 608, 618, 2);
        night(x, 0, 2, 614, 619, 2);
        night(x, 0, 2, 1853, 1858, 2);
        night(x, 0, 2, 1854, -9, -9);
        x.days(0, 0, 3);
        night(x, 3, 2, 1854, 1859, 2);
        night(x, 4, 2, 100, 105, 2);
        x.days(0, 4, 4);
        night(x, 2, 2, 1854, 1859, 2);
        night(x, 3, 2, 0, 5, 2);
        night(x, 3, 2, 1854, -9, -9);
        // A bus of the next night is there behind the next day's first one.
        Check.line(x, 2, 1439, 1, 1439, 3, 30, 4, 30, 5, 30, 2, 0);
        Check.line(x, 0, 0, 1, 0, 2, 1, 5, 0);
        night(x, 20, 2, 0, -9, -9);
        x.days(2, 59, 59);
        night(x, 20, 2, 0, 1439 + 87 + 5, 2);
    }

    private static void nightOrders() {
        RedrawnLines x = Check.town();
        for (int s = 0; s < 4; s++) {
            x.board(s, true);
        }
        // The same walk from either end: the first row.
        night(x, 0, 5, 0, 10 + 30 + 20, 0, 1, 2, 3);
        night(x, 0, 3, 0, 30 + 20, 3, 2, 1, 0);
        // It waits for 0's last bus, and so does the others first.
        Check.line(x, 0, 100, 1, 100, 4, 30, 0, 0);
        night(x, 0, 5, 0, 135, 1, 2, 3, 0);
        night(x, 0, 0, 0, 135, 1, 2, 3, 0);
        // 3 is to be done before its first bus.
        Check.line(x, 0, 10, 1, 10, 4, 30, 3, 0);
        night(x, 0, 0, 1440, 1440 + 70, 0, 3, 2, 1);
        night(x, 0, 4, 1440, 1440 + 70, 3, 2, 1, 0);
        night(x, 0, 0, 1445, 1445 + 80, 3, 2, 1, 0);
        night(x, 0, 0, 1446, -9, -9, -9, -9, -9);
        x.board(3, false);
        night(x, 0, 0, 1450, 1450 + 35, 0, 1, 2);
        Check.due("k 3", x.night(0, 0, 1450, 3), -1);
    }

    private static void queues() {
        RedrawnLines x = Check.town();
        Check.due("extra, no line", x.extra(0), -1);
        Check.line(x, 0, 400, 100, 600, 0, 10, 1, 8, 2, 5, 3, 0);
        Check.line(x, 0, 400, 100, 600, 0, 10, 1, 0);
        Check.due("at first", x.waiting(0, 0, 30), 0);
        Check.due("then", x.waiting(0, 0, 999), 30);
        Check.due("as many as may", x.waiting(0, 0, 0), 999);
        Check.due("none", x.waiting(0, 0, 30), 0);
        x.waiting(0, 1, 50);
        x.waiting(0, 2, 90);
        Check.due("k -1 ahead of many", x.waiting(0, -1, -1), -1);
        Check.due("its last", x.waiting(0, 3, 1), -1);
        Check.due("no line", x.waiting(2, 0, 1), -1);
        Check.due("many -1", x.waiting(0, 0, -1), -2);
        Check.due("many 1000", x.waiting(0, 0, 1000), -2);
        int[][] want = {{170, 30, 50, 90}, {130, 0, 40, 90}, {90, 0, 0, 90}, {50, 0, 0, 50}, {10, 0, 0, 10}, {0, 0, 0, 0}};
        for (int n = 0; n < want.length; n++) {
            for (int k = -1; k < 3; k++) {
                Check.due("standing(0, " + k + ", " + n + ")", x.standing(0, k, n), want[n][k + 1]);
            }
        }
        Check.due("another line", x.standing(1, -1, 0), 0);
        Check.due("its last, ahead of n", x.standing(0, 3, -1), -1);
        Check.due("k -2", x.standing(0, -2, 0), -1);
        Check.due("no line", x.standing(2, -1, 0), -1);
        Check.due("n -1", x.standing(0, -1, -1), -2);
        Check.due("n 1000", x.standing(0, -1, 1000), -2);
        Check.due("n 999", x.standing(0, -1, 999), 0);
        Check.due("extra", x.extra(0), 2);
        Check.due("extra, none waits", x.extra(1), 0);
        Check.due("extra, line -1", x.extra(-1), -1);
        Check.due("seats 0", x.seats(0), -2);
        Check.due("seats 100", x.seats(100), -2);
        Check.due("seats 85", x.seats(85), 40);
        Check.due("just two, of three", x.extra(0), 0);
        Check.due("seats 1", x.seats(1), 85);
        Check.due("one each", x.extra(0), 167);
        Check.due("seats 99", x.seats(99), 1);
        Check.due("seats 57", x.seats(57), 99);
        Check.due("just three", x.extra(0), 0);
        Check.due("seats 56", x.seats(56), 57);
        Check.due("one more", x.extra(0), 1);
        Check.due("two behind three", x.standing(0, 2, 3), 2);
    }
}
