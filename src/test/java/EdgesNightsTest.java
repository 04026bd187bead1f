import java.util.function.Supplier;

/** Terms, part 4 (nights, queues), and promises 26 to 31, sentence by sentence: the edges that each one names. */
public final class EdgesNightsTest {
    private static final int LEAST = Integer.MIN_VALUE;
    private static final int MOST = Integer.MAX_VALUE;

    public static void main(String[] args) {
        countOfBoards();
        boardRefusals();
        fiveMinutesAtEach();
        lastBus();
        firstBus();
        noBus();
        endsToo();
        linesOfTheDay();
        theSoonest();
        theFirstRow();
        nightRefusals();
        waiting();
        waitingRefusals();
        seats();
        busesFill();
        standing();
        extra();
        Check.end();
    }

    private static void countOfBoards() {
        Check.says("BOARDS: STOPS, 6 at most.");
        RedrawnLines x = new RedrawnLines();
        for (int s = 0; s < 16; s++) {
            x.stop(s, s);
        }
        for (int k = 0; k < 6; k++) {
            Check.ask(x, k, "many", 7);
            Check.ask(x, 1, "board", 15 - 3 * k, true);
            Check.ask(x, 0, "board", 15 - 3 * k, true);
        }
        Check.ask(x, 6, "many", 7);
        Check.ask(x, -4, "board", 1, true);
        Check.ask(x, 6, "many", 7);
        Check.ask(x, 1, "board", 0, false);
        Check.ask(x, 5, "many", 7);
        Check.ask(x, 1, "board", 1, true);
        Check.ask(x, 6, "many", 7);
        Check.ask(x, -4, "board", 0, true);
    }

    private static void boardRefusals() {
        Check.says("A STOP has a BOARD, or none: 1; 0: it was so. UNKNOWN; FULL: six.");
        for (boolean is : new boolean[] {true, false}) {
            for (int none : new int[] {-1, 6, LEAST, MOST}) {
                Unchanged.due(Towns::ordinary, -1, "board", none, is);
                Unchanged.due(Towns::full, -1, "board", none == 6 ? 16 : none, is);
            }
            Unchanged.due(RedrawnLines::new, -1, "board", 0, is);
        }
        for (int s : new int[] {1, 3, 5, 11, 15}) {
            Unchanged.due(Towns::full, -4, "board", s, true);
            Unchanged.due(Towns::full, 0, "board", s, false);
        }
        for (int s = 0; s < 12; s += 2) {
            Unchanged.due(Towns::full, 0, "board", s, true);
        }
        Unchanged.due(Towns::ordinary, 0, "board", 0, true);
        Unchanged.due(Towns::ordinary, 0, "board", 1, false);
        RedrawnLines x = Towns.ordinary();
        Check.ask(x, 1, "board", 0, false);
        Check.ask(x, 0, "board", 0, false);
        Check.ask(x, 1, "board", 5, true);
        Check.ask(x, 0, "board", 5, true);
    }

    private static void night(RedrawnLines x, int day, int stop, int minute, int... want) {
        for (int k = -1; k < want.length - 1; k++) {
            Check.ask(x, want[k + 1], "night", day, stop, minute, k);
        }
    }

    private static void fiveMinutesAtEach() {
        Check.says("A NIGHT's ROUND from a STOP on a DAY, from a MINUTE on: the gang WALKS from BOARD to BOARD, 5 MINUTES at each;");
        RedrawnLines x = Check.stops(0, 0, 7, 0, 7, 4, 40, 40);
        night(x, 0, 0, 0, 0);
        night(x, 58, 0, 2879, 2879);
        x.board(0, true);
        night(x, 0, 0, 0, 5, 0);
        night(x, 0, 0, 2879, 2884, 0);
        night(x, 58, 3, 100, 185, 0);
        x.board(1, true);
        night(x, 0, 0, 100, 117, 0, 1);
        night(x, 0, 1, 100, 117, 1, 0);
        x.board(2, true);
        night(x, 0, 0, 100, 126, 0, 1, 2);
        x.board(0, false);
        x.board(1, false);
        night(x, 0, 2, 100, 105, 2);
    }

    /** A board at stop 1 alone, where a line's buses are from 410 to 605. */
    private static RedrawnLines oneBoard() {
        RedrawnLines x = Check.town();
        Check.line(x, 0, 400, 15, 600, 0, 10, 1, 8, 2, 0);
        x.board(1, true);
        return x;
    }

    private static void lastBus() {
        Check.says("it may begin at one when the last bus of that DAY has been there (it waits; of LINES that RUN that DAY, their ends, too),");
        RedrawnLines x = oneBoard();
        int[][] want = {{0, 610}, {594, 610}, {595, 610}, {596, 611}, {1000, 1015}};
        for (int[] w : want) {
            night(x, 0, 0, w[0], w[1], 1);
        }
        night(x, 0, 1, 604, 610, 1);
        night(x, 0, 1, 605, 610, 1);
        night(x, 0, 1, 606, 611, 1);
        // The later of two lines' last buses.
        Check.line(x, 0, 500, 1, 606, 4, 30, 1, 5, 5, 0);
        night(x, 0, 1, 0, 641, 1);
        x.days(0, 9, 9);
        night(x, 0, 1, 0, 641, 1);
        Check.line(x, 0, 1439, 1, 1439, 0, 30, 1, 5, 5, 0);
        night(x, 0, 1, 0, 1474, 1);
    }

    private static void firstBus() {
        Check.says("and is to be done there before or as the first one of the next DAY comes (1440 and its MINUTE; no bus: any time).");
        RedrawnLines x = oneBoard();
        // Its first bus of the next day is there at 1850.
        night(x, 0, 1, 1844, 1849, 1);
        night(x, 0, 1, 1845, 1850, 1);
        night(x, 0, 1, 1846, -9, -9);
        night(x, 0, 0, 1835, 1850, 1);
        night(x, 0, 0, 1836, -9, -9);
        night(x, 0, 1, 2879, -9, -9);
        // The sooner of two lines' first buses.
        Check.line(x, 2, 399, 1, 399, 4, 11, 1, 0);
        night(x, 0, 1, 1844, 1849, 1);
        night(x, 0, 1, 1845, -9, -9);
        // A bus at minute 0 of the next day; the last one of this day is there 1 minute, 5 minutes ahead of it.
        x = Check.town();
        x.board(0, true);
        Check.line(x, 0, 0, 1, 0, 0, 5, 1, 0);
        night(x, 0, 0, 1435, 1440, 0);
        night(x, 0, 0, 1436, -9, -9);
        Check.line(x, 0, 0, 1, 1435, 0, 5, 2, 0);
        night(x, 0, 0, 0, 1440, 0);
        Check.line(x, 0, 1436, 1, 1436, 0, 5, 2, 0);
        night(x, 0, 0, 0, -9, -9);
    }

    private static void noBus() {
        RedrawnLines x = oneBoard();
        x.days(0, 10, 20);
        night(x, 8, 1, 0, 5, 1);
        night(x, 8, 1, 2879, 2884, 1);
        night(x, 9, 1, 0, 5, 1);
        night(x, 9, 1, 1846, -9, -9);
        night(x, 10, 1, 0, 610, 1);
        night(x, 20, 1, 0, 610, 1);
        night(x, 20, 1, 2879, 2884, 1);
        night(x, 21, 1, 0, 5, 1);
        x.board(3, true);
        night(x, 10, 3, 0, 610, 3, 1);
    }

    private static void endsToo() {
        Check.says("(it waits; of LINES that RUN that DAY, their ends, too), and is to be done there before or as the first one of the next DAY comes (1440 and its MINUTE; no bus: any time).");
        RedrawnLines x = oneBoard();
        x.board(1, false);
        x.board(2, true);
        // It ends at stop 2, from 418 to 613.
        night(x, 0, 2, 0, 618, 2);
        night(x, 0, 2, 1853, 1858, 2);
        night(x, 0, 2, 1854, -9, -9);
        x.board(2, false);
        x.board(0, true);
        // It begins at stop 0, from 400 to 595.
        night(x, 0, 0, 0, 600, 0);
        night(x, 0, 0, 1835, 1840, 0);
        night(x, 0, 0, 1836, -9, -9);
    }

    private static void linesOfTheDay() {
        RedrawnLines x = Check.town();
        Check.line(x, 1, 400, 15, 600, 0, 10, 1, 8, 2, 0);
        x.board(0, true);
        night(x, 4, 0, 0, 600, 0);
        night(x, 4, 0, 2879, 2884, 0);
        night(x, 5, 0, 0, 5, 0);
        night(x, 5, 0, 2879, 2884, 0);
        night(x, 6, 0, 0, 5, 0);
        night(x, 6, 0, 1836, -9, -9);
        night(x, 58, 0, 0, 600, 0);
        night(x, 58, 0, 1836, -9, -9);
        x.offer(0);
        night(x, 58, 0, 0, 600, 0);
    }

    private static void theSoonest() {
        Check.says("The order in which all are done the soonest; of several the first as a row of STOPS.");
        RedrawnLines x = Check.stops(25, 0, 0, 0, 20, 0, 5, 0, 15, 0, 10, 0, 12, 0);
        for (int s = 0; s < 6; s++) {
            x.board(s, true);
        }
        night(x, 0, 1, 0, 25 + 30, 1, 3, 5, 4, 2, 0);
        night(x, 0, 0, 0, 25 + 30, 0, 2, 4, 5, 3, 1);
        night(x, 0, 6, 0, 12 + 25 + 30, 1, 3, 5, 4, 2, 0);
        // It may begin at stop 1 at 100 and so comes there last: by 50 minutes of walks, or by ways round while there is time.
        Check.line(x, 0, 100, 1, 100, 1, 5, 6, 0);
        night(x, 0, 1, 0, 105, 0, 2, 3, 4, 5, 1);
        night(x, 0, 1, 5, 105, 0, 2, 3, 4, 5, 1);
        night(x, 0, 1, 6, 105, 0, 2, 4, 3, 5, 1);
        night(x, 0, 1, 15, 105, 0, 2, 4, 3, 5, 1);
        night(x, 0, 1, 16, 105, 0, 2, 4, 5, 3, 1);
        night(x, 0, 1, 25, 105, 0, 2, 4, 5, 3, 1);
        night(x, 0, 1, 26, 106, 0, 2, 4, 5, 3, 1);
        night(x, 0, 1, 101, 101 + 55, 1, 3, 5, 4, 2, 0);
    }

    private static void theFirstRow() {
        RedrawnLines x = Check.stops(0, 0, 0, 0, 0, 0, 0, 0);
        for (int s = 3; s >= 0; s--) {
            x.board(s, true);
        }
        night(x, 0, 3, 0, 20, 0, 1, 2, 3);
        // Stop 0's last bus is there at 12, stop 3's at 13.
        Check.line(x, 0, 12, 1, 12, 0, 1, 3, 0);
        night(x, 0, 3, 0, 22, 1, 2, 0, 3);
        night(x, 0, 3, 2, 22, 1, 2, 0, 3);
        night(x, 0, 3, 3, 23, 1, 2, 0, 3);
        night(x, 0, 3, 7, 27, 1, 0, 2, 3);
        night(x, 0, 3, 12, 32, 0, 1, 2, 3);
        // Stop 0 is to be done till 1452, stop 3 till 1453: both only if the gang begins there at 1443 at the latest.
        night(x, 0, 3, 1432, 1452, 0, 1, 2, 3);
        night(x, 0, 3, 1433, 1453, 0, 1, 2, 3);
        night(x, 0, 3, 1434, 1454, 0, 1, 3, 2);
        night(x, 0, 3, 1438, 1458, 0, 1, 3, 2);
        night(x, 0, 3, 1439, 1459, 0, 3, 1, 2);
        night(x, 0, 3, 1442, 1462, 0, 3, 1, 2);
        night(x, 0, 3, 1443, 1463, 0, 3, 1, 2);
        night(x, 0, 3, 1444, -9, -9, -9, -9, -9);
    }

    private static void nightRefusals() {
        Check.says("A NIGHT's ROUND on a DAY from a STOP, a MINUTE (0 .. 2879) on: the MINUTE at which all are done (k -1), the k-th BOARD's STOP; NONE: there is no order. UNKNOWN: STOP, k is not -1 .. BOARDS less 1; OUTSIDE: day is not 0 .. 58, minute.");
        Supplier<RedrawnLines> town = Towns::ordinary;
        // Stop 0's last bus is there at 595, stop 3's at 1429.
        night(Towns.ordinary(), 0, 0, 0, 1434, 0, 3);
        night(Towns.ordinary(), 58, 5, 0, 1434, 0, 3);
        night(Towns.ordinary(), 0, 0, 2879, -9, -9, -9);
        for (int none : new int[] {-1, 6, LEAST, MOST}) {
            Unchanged.due(town, -1, "night", 0, none, 0, -1);
            Unchanged.due(town, -1, "night", 59, none, 2880, -1);
        }
        for (int k : new int[] {-2, 2, LEAST, MOST}) {
            Unchanged.due(town, -1, "night", 0, 0, 0, k);
            Unchanged.due(town, -1, "night", 0, 0, 2879, k);
            Unchanged.due(town, -1, "night", -1, 0, 0, k);
            Unchanged.due(town, -1, "night", 0, 0, -1, k);
        }
        for (int day : new int[] {-1, 59, 60, LEAST, MOST}) {
            Unchanged.due(town, -2, "night", day, 0, 0, -1);
            Unchanged.due(town, -2, "night", day, 0, 0, 1);
        }
        for (int minute : new int[] {-1, 2880, LEAST, MOST}) {
            Unchanged.due(town, -2, "night", 0, 0, minute, -1);
            Unchanged.due(town, -2, "night", 58, 5, minute, 1);
        }
        Unchanged.due(Towns::full, -1, "night", 0, 16, 0, -1);
        Unchanged.due(Towns::full, -1, "night", 0, 15, 0, 6);
        Unchanged.due(RedrawnLines::new, -1, "night", 0, 0, 0, -1);
        Unchanged.due(Check::town, -1, "night", 0, 0, 0, 0);
        Unchanged.due(Check::town, 7, "night", 0, 0, 7, -1);
        Unchanged.due(town, -9, "night", 0, 0, 2879, 1);
    }

    /** A line of eight stops with three buses (line 0), one of two stops with one bus (line 1). */
    private static RedrawnLines queues() {
        RedrawnLines x = Check.stops(0, 0, 1, 0, 2, 0, 3, 0, 4, 0, 5, 0, 6, 0, 7, 0);
        Check.line(x, 0, 400, 100, 600, 0, 5, 1, 5, 2, 5, 3, 5, 4, 5, 5, 5, 6, 5, 7, 0);
        Check.line(x, 2, 400, 1, 400, 0, 5, 1, 0);
        return x;
    }

    private static void waiting() {
        Check.says("WAITING: so many at each STOP of a LINE (0 at first; at its last none), all to its end.");
        RedrawnLines x = queues();
        for (int k = 0; k < 7; k++) {
            Check.ask(x, 0, "standing", 0, k, 0);
            Check.ask(x, 0, "waiting", 0, k, 10 + k);
        }
        Check.ask(x, -1, "waiting", 0, 7, 1);
        Check.ask(x, -1, "standing", 0, 7, 0);
        Check.ask(x, 0, "waiting", 1, 0, 5);
        Check.ask(x, -1, "waiting", 1, 1, 5);
        for (int k = 0; k < 7; k++) {
            Check.ask(x, 10 + k, "standing", 0, k, 0);
        }
        Check.ask(x, 91, "standing", 0, -1, 0);
        Check.ask(x, 5, "standing", 1, -1, 0);
        // Whoever is on the bus stays there: 40 seats take 10, 11, 12 and 7 of 13.
        Check.ask(x, 6, "standing", 0, 3, 1);
        Check.ask(x, 14, "standing", 0, 4, 1);
    }

    private static void waitingRefusals() {
        Check.says("So many WAIT at its k-th STOP: how many did. UNKNOWN: LINE, k (its last, too); OUTSIDE: many is not 0 .. 999.");
        RedrawnLines x = queues();
        int[][] want = {{0, 0}, {999, 0}, {0, 999}, {1, 0}, {998, 1}, {998, 998}};
        for (int k : new int[] {0, 6}) {
            for (int[] w : want) {
                Check.ask(x, w[1], "waiting", 0, k, w[0]);
                Check.ask(x, w[0], "standing", 0, k, 0);
            }
        }
        for (int many : new int[] {-1, 1000, LEAST, MOST}) {
            Unchanged.due(Towns::ordinary, -2, "waiting", 0, 0, many);
            Unchanged.due(Towns::ordinary, -1, "waiting", 0, 2, many);
            Unchanged.due(Towns::ordinary, -1, "waiting", 3, 0, many);
        }
        for (int none : new int[] {-1, 3, LEAST, MOST}) {
            Unchanged.due(Towns::ordinary, -1, "waiting", none, 0, 5);
            Unchanged.due(Towns::ordinary, -1, "waiting", 0, none, 5);
        }
        Unchanged.due(Towns::ordinary, -1, "waiting", 0, 2, 5);
        Unchanged.due(Towns::full, -1, "waiting", 14, 0, 5);
        Unchanged.due(Towns::full, -1, "waiting", 6, 7, 5);
        Check.ask(Towns.full(), 0, "waiting", 6, 6, 5);
    }

    private static void seats() {
        Check.says("SEATS become n: what they were. OUTSIDE.");
        RedrawnLines x = new RedrawnLines();
        int[] row = {40, 1, 99, 2, 98, 40, 40};
        for (int k = 1; k < row.length; k++) {
            Check.ask(x, row[k - 1], "seats", row[k]);
        }
        for (int n : new int[] {0, 100, -1, LEAST, MOST}) {
            Unchanged.due(Towns::ordinary, -2, "seats", n);
            Unchanged.due(RedrawnLines::new, -2, "seats", n);
        }
    }

    private static void busesFill() {
        Check.says("A bus has SEATS (1 .. 99; 40 at first): it takes at each STOP as many as there are SEATS left.");
        int[][] want = {{40, 1, 0, 1}, {39, 1, 0, 0}, {39, 2, 0, 1}, {41, 0, 1, 0}, {41, 3, 1, 3}, {0, 40, 0, 0}, {0, 41, 0, 1}, {40, 0, 0, 0}, {1, 40, 0, 1}};
        for (int[] w : want) {
            RedrawnLines x = queues();
            x.waiting(0, 0, w[0]);
            x.waiting(0, 1, w[1]);
            Check.ask(x, w[2], "standing", 0, 0, 1);
            Check.ask(x, w[3], "standing", 0, 1, 1);
            Check.ask(x, w[2] + w[3], "standing", 0, -1, 1);
        }
        RedrawnLines x = queues();
        x.waiting(0, 0, 100);
        x.waiting(0, 6, 2);
        int[][] bySeats = {{1, 99, 2}, {99, 1, 2}, {98, 2, 2}, {50, 50, 2}};
        for (int[] w : bySeats) {
            x.seats(w[0]);
            Check.ask(x, w[1], "standing", 0, 0, 1);
            Check.ask(x, w[2], "standing", 0, 6, 1);
        }
        Check.ask(x, 0, "standing", 0, 0, 2);
        Check.ask(x, 2, "standing", 0, 6, 2);
        Check.ask(x, 0, "standing", 0, 6, 3);
    }

    private static void standing() {
        Check.says("STANDING: who waits still behind n buses.");
        RedrawnLines x = queues();
        x.seats(1);
        x.waiting(0, 0, 999);
        x.waiting(0, 1, 1);
        int[][] want = {{0, 999, 1}, {1, 998, 1}, {998, 1, 1}, {999, 0, 1}};
        for (int[] w : want) {
            Check.ask(x, w[1], "standing", 0, 0, w[0]);
            Check.ask(x, w[2], "standing", 0, 1, w[0]);
            Check.ask(x, w[1] + w[2], "standing", 0, -1, w[0]);
        }
        for (int k = 0; k < 7; k++) {
            x.waiting(0, k, 999);
        }
        Check.ask(x, 6993, "standing", 0, -1, 0);
        Check.ask(x, 5994, "standing", 0, -1, 999);
        x.seats(99);
        Check.ask(x, 0, "standing", 0, -1, 999);
        Check.ask(x, 63, "standing", 0, -1, 70);
        Check.ask(x, 0, "standing", 0, -1, 71);
        Check.says("STANDING at its k-th STOP (k -1: at all) behind n buses (0 .. 999; nothing is changed). UNKNOWN: LINE, k (its last, too); OUTSIDE.");
        for (int n : new int[] {0, 1, 999}) {
            Unchanged.due(Towns::ordinary, n == 0 ? 80 : n == 1 ? 73 : 0, "standing", 0, -1, n);
            Unchanged.due(Towns::ordinary, n == 0 ? 30 : n == 1 ? 23 : 0, "standing", 0, 0, n);
        }
        for (int n : new int[] {-1, 1000, LEAST, MOST}) {
            Unchanged.due(Towns::ordinary, -2, "standing", 0, -1, n);
            Unchanged.due(Towns::ordinary, -2, "standing", 0, 1, n);
            Unchanged.due(Towns::ordinary, -1, "standing", 0, 2, n);
            Unchanged.due(Towns::ordinary, -1, "standing", 3, -1, n);
        }
        for (int none : new int[] {-2, 2, 3, LEAST, MOST}) {
            Unchanged.due(Towns::ordinary, -1, "standing", 0, none, 0);
        }
        for (int none : new int[] {-1, 3, LEAST, MOST}) {
            Unchanged.due(Towns::ordinary, -1, "standing", none, -1, 0);
        }
        Unchanged.due(Towns::full, -1, "standing", 14, -1, 0);
        Unchanged.due(Towns::full, -1, "standing", 6, 7, 0);
        Check.ask(Towns.full(), 999, "standing", 13, -1, 0);
    }

    private static void extra() {
        Check.says("How many more buses than leave a DAY it takes so that none is STANDING. UNKNOWN.");
        RedrawnLines x = queues();
        x.seats(10);
        int[][] want = {{0, 0}, {1, 0}, {29, 0}, {30, 0}, {31, 1}, {40, 1}, {41, 2}, {999, 97}};
        for (int k : new int[] {0, 6}) {
            for (int[] w : want) {
                x.waiting(0, k, w[0]);
                Check.ask(x, w[1], "extra", 0);
            }
            x.waiting(0, k, 0);
        }
        x.waiting(0, 2, 15);
        x.waiting(0, 5, 15);
        Check.ask(x, 0, "extra", 0);
        x.waiting(0, 6, 1);
        Check.ask(x, 1, "extra", 0);
        Check.ask(x, 0, "extra", 1);
        x.waiting(1, 0, 10);
        Check.ask(x, 0, "extra", 1);
        x.waiting(1, 0, 11);
        Check.ask(x, 1, "extra", 1);
        x.seats(1);
        for (int k = 0; k < 7; k++) {
            x.waiting(0, k, 999);
        }
        Check.ask(x, 6990, "extra", 0);
        x.seats(99);
        Check.ask(x, 68, "extra", 0);
        // A day on which it does not run is not asked.
        x.days(0, 59, 59);
        Check.ask(x, 68, "extra", 0);
        for (int none : new int[] {-1, 3, LEAST, MOST}) {
            Unchanged.due(Towns::ordinary, -1, "extra", none);
        }
        Unchanged.due(Towns::full, -1, "extra", 14);
        Unchanged.due(RedrawnLines::new, -1, "extra", 0);
        // 80 wait, 14 buses of 7 seats leave.
        Unchanged.due(Towns::ordinary, 0, "extra", 0);
    }
}
