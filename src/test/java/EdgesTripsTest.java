import java.util.function.Supplier;

/** Terms, part 3, and promises 14 to 19, sentence by sentence: the edges that each one names. */
public final class EdgesTripsTest {
    private static final int LEAST = Integer.MIN_VALUE;
    private static final int MOST = Integer.MAX_VALUE;

    public static void main(String[] args) {
        countOfTrips();
        tripRefusals();
        startAndEnd();
        walks();
        walksAllTogether();
        rides();
        firstBus();
        laterStops();
        runningLines();
        intoTheNight();
        soonest();
        fewestRides();
        leastWalked();
        wayRefusals();
        worse();
        loseRefusals();
        whoRefusals();
        offers();
        offerRefusals();
        offeredRun();
        busMinutes();
        mostMinutes();
        netOrder();
        netsOfADay();
        bestRefusals();
        Check.end();
    }

    private static void way(RedrawnLines x, int t, int day, int... want) {
        for (int what = 0; what < 3; what++) {
            Check.ask(x, want.length == 0 ? -9 : want[what], "way", t, day, what);
        }
    }

    private static void countOfTrips() {
        Check.says("TRIPS, 6 ever, numbered as they come: from a STOP to a STOP, START (0 .. 1439), MOST walked (0 .. 30 MINUTES), RIDES (0 .. 3 at most).");
        RedrawnLines x = Check.town();
        int[][] as = {{0, 5, 0, 0, 0}, {5, 0, 1439, 30, 3}, {0, 0, 1439, 0, 3}, {5, 5, 0, 30, 0}, {4, 3, 7, 1, 1}, {1, 2, 8, 29, 2}};
        for (int t = 0; t < 6; t++) {
            Check.ask(x, t, "many", 3);
            Check.ask(x, t, "trip", as[t][0], as[t][1], as[t][2], as[t][3], as[t][4]);
        }
        Check.ask(x, 6, "many", 3);
        Check.ask(x, -4, "trip", 0, 0, 0, 0, 0);
        Check.ask(x, 6, "many", 3);
        way(x, 0, 0);
        way(x, 1, 0, 1449, 0, 10);
        way(x, 2, 0, 1439, 0, 0);
        way(x, 3, 0, 0, 0, 0);
        way(x, 4, 0);
        way(x, 5, 0, 18, 0, 10);
    }

    private static void tripRefusals() {
        Check.says("A TRIP: its number. UNKNOWN: STOPS; OUTSIDE: start, most, rides; FULL.");
        Supplier<RedrawnLines> town = Towns::ordinary;
        for (int none : new int[] {-1, 6, LEAST, MOST}) {
            Unchanged.due(town, -1, "trip", none, 0, 0, 0, 0);
            Unchanged.due(town, -1, "trip", 0, none, 0, 0, 0);
            Unchanged.due(town, -1, "trip", 0, none, 1440, 31, 4);
        }
        int[][] outside = {{-1, 0, 0}, {1440, 0, 0}, {LEAST, 0, 0}, {MOST, 0, 0}, {0, -1, 0}, {0, 31, 0}, {0, LEAST, 0}, {0, MOST, 0}, {0, 0, -1}, {0, 0, 4}, {0, 0, LEAST}, {0, 0, MOST}};
        for (int[] o : outside) {
            Unchanged.due(town, -2, "trip", 0, 1, o[0], o[1], o[2]);
            Unchanged.due(Towns::full, -2, "trip", 0, 1, o[0], o[1], o[2]);
        }
        Unchanged.due(Towns::full, -1, "trip", 16, 0, 0, 0, 0);
        Unchanged.due(Towns::full, -1, "trip", 0, 16, 0, 0, 0);
        Unchanged.due(Towns::full, -4, "trip", 0, 15, 0, 0, 0);
        Unchanged.due(RedrawnLines::new, -1, "trip", 0, 0, 0, 0, 0);
    }

    private static void startAndEnd() {
        Check.says("A WAY on a DAY: from START at the one STOP:");
        RedrawnLines x = Check.stops(0, 0, 0, 0, 1, 0);
        x.trip(0, 0, 0, 0, 0);
        x.trip(2, 2, 1439, 30, 3);
        x.trip(0, 1, 5, 0, 0);
        x.trip(0, 2, 5, 0, 0);
        x.trip(0, 2, 5, 1, 0);
        x.trip(0, 2, 0, 1, 0);
        way(x, 0, 0, 0, 0, 0);
        way(x, 1, 59, 1439, 0, 0);
        way(x, 2, 0, 5, 0, 0);
        way(x, 3, 0);
        way(x, 4, 0, 6, 0, 1);
        way(x, 5, 0, 1, 0, 1);
        // At minute 0 a bus is taken, and one that is walked to.
        x = Check.stops(0, 0, 1, 0, 40, 40);
        Check.line(x, 0, 0, 1, 1, 0, 20, 2, 0);
        Check.line(x, 0, 1, 1, 1, 1, 10, 2, 0);
        x.trip(0, 2, 0, 0, 1);
        x.trip(0, 2, 0, 1, 1);
        way(x, 0, 0, 20, 1, 0);
        way(x, 1, 0, 11, 1, 1);
    }

    private static void walks() {
        Check.says("WALKS from STOP to STOP (MOST MINUTES all together),");
        RedrawnLines x = Check.stops(0, 0, 10, 20, 10, 21, 0, 15);
        x.trip(0, 1, 100, 30, 0);
        x.trip(0, 1, 100, 29, 0);
        x.trip(0, 2, 100, 30, 0);
        x.trip(0, 3, 100, 15, 0);
        x.trip(0, 3, 100, 14, 0);
        x.trip(0, 3, 100, 30, 3);
        way(x, 0, 0, 130, 0, 30);
        way(x, 1, 0);
        way(x, 2, 0);
        way(x, 3, 0, 115, 0, 15);
        way(x, 4, 0);
        way(x, 5, 0, 115, 0, 15);
    }

    private static void walksAllTogether() {
        RedrawnLines x = Check.stops(0, 0, 5, 0, 30, 0, 35, 0);
        Check.line(x, 0, 105, 20, 145, 1, 10, 2, 0);
        x.trip(0, 3, 100, 10, 1);
        x.trip(0, 3, 100, 9, 1);
        x.trip(0, 3, 101, 10, 1);
        x.trip(0, 3, 140, 10, 1);
        x.trip(0, 3, 141, 10, 1);
        x.trip(0, 2, 100, 5, 1);
        way(x, 0, 0, 120, 1, 10);
        way(x, 1, 0);
        way(x, 2, 0, 140, 1, 10);
        way(x, 3, 0, 160, 1, 10);
        way(x, 4, 0);
        way(x, 5, 0, 115, 1, 5);
        // Between two rides.
        x = Check.stops(0, 0, 40, 0, 40, 10, 0, 40);
        Check.line(x, 0, 100, 1, 100, 0, 10, 1, 0);
        Check.line(x, 0, 120, 1, 120, 2, 10, 3, 0);
        Check.line(x, 0, 119, 1, 119, 2, 10, 3, 0);
        x.days(2, 0, 9);
        x.days(1, 10, 19);
        x.trip(0, 3, 100, 10, 2);
        x.trip(0, 3, 100, 9, 2);
        x.trip(0, 3, 100, 10, 1);
        way(x, 0, 0);
        way(x, 0, 10, 130, 2, 10);
        way(x, 1, 10);
        way(x, 2, 10);
    }

    /** Corners and the middle, each 40 from the next: nobody walks; each line's bus is there as the next one leaves. */
    private static RedrawnLines corners(int secondLeaves) {
        RedrawnLines x = Check.stops(0, 0, 40, 0, 40, 40, 0, 40, 20, 20);
        Check.line(x, 0, 100, 1, 100, 0, 10, 1, 0);
        Check.line(x, 0, secondLeaves, 1, secondLeaves, 1, 10, 2, 0);
        Check.line(x, 0, 120, 1, 120, 2, 10, 3, 0);
        Check.line(x, 0, 130, 1, 130, 3, 10, 4, 0);
        return x;
    }

    private static void rides() {
        Check.says("and RIDES: on a bus of a LINE that RUNS, from a STOP at which it leaves then or later (the first such one is taken) to a later STOP of it; till the other STOP.");
        for (int to = 1; to <= 4; to++) {
            RedrawnLines x = corners(110);
            for (int rides = 0; rides <= 3; rides++) {
                x.trip(0, to, 100, 30, rides);
                if (rides >= to) {
                    way(x, rides, 0, 100 + 10 * to, to, 0);
                } else {
                    way(x, rides, 0);
                }
            }
        }
        RedrawnLines x = corners(109);
        x.trip(0, 3, 100, 30, 3);
        x.trip(0, 1, 100, 30, 3);
        x.trip(1, 3, 109, 30, 3);
        x.trip(1, 3, 110, 30, 3);
        way(x, 0, 0);
        way(x, 1, 0, 110, 1, 0);
        way(x, 2, 0, 130, 2, 0);
        way(x, 3, 0);
        x = corners(111);
        x.trip(0, 2, 100, 30, 3);
        x.trip(0, 3, 100, 30, 3);
        way(x, 0, 0, 121, 2, 0);
        way(x, 1, 0);
        // A bus is ridden all along in one ride.
        x = Check.stops(0, 0, 5, 0, 10, 0, 15, 0, 20, 0, 25, 0, 30, 0, 35, 0);
        Check.line(x, 0, 100, 1, 100, 0, 30, 1, 30, 2, 30, 3, 30, 4, 30, 5, 30, 6, 30, 7, 0);
        x.trip(0, 7, 100, 0, 1);
        x.trip(0, 7, 100, 0, 0);
        x.trip(1, 6, 130, 0, 1);
        way(x, 0, 0, 310, 1, 0);
        way(x, 1, 0);
        way(x, 2, 0, 280, 1, 0);
    }

    private static void firstBus() {
        int[][] want = {{0, 1, 400, 410}, {0, 1, 401, 425}, {0, 1, 415, 425}, {0, 1, 0, 410}, {0, 1, 595, 605}, {0, 1, 596, -9}, {1, 2, 410, 418}, {1, 2, 411, 433}, {1, 2, 605, 613}, {1, 2, 606, -9}, {0, 2, 400, 418}};
        for (int[] w : want) {
            RedrawnLines x = Towns.ordinary();
            x.trip(w[0], w[1], w[2], 0, 1);
            Check.ask(x, w[3], "way", 3, 0, 0);
            Check.ask(x, w[3] == -9 ? -9 : 1, "way", 3, 0, 1);
            Check.ask(x, w[3] == -9 ? -9 : 0, "way", 3, 0, 2);
        }
    }

    private static void laterStops() {
        RedrawnLines x = Check.stops(0, 0, 40, 0, 40, 40);
        Check.line(x, 0, 100, 1, 200, 0, 10, 1, 10, 2, 0);
        x.trip(1, 0, 100, 30, 3);
        x.trip(2, 1, 100, 30, 3);
        x.trip(2, 0, 100, 30, 3);
        x.trip(0, 2, 100, 30, 3);
        x.trip(1, 2, 100, 30, 3);
        for (int t = 0; t < 3; t++) {
            way(x, t, 0);
        }
        way(x, 3, 0, 120, 1, 0);
        way(x, 4, 0, 120, 1, 0);
    }

    private static void runningLines() {
        RedrawnLines x = Check.stops(0, 0, 40, 0);
        for (int kind = 0; kind < 3; kind++) {
            Check.line(x, kind, 100, 1, 100, 0, 10 + kind, 1, 0);
            x.days(kind, 14 * kind, 14 * kind + 6);
        }
        x.trip(0, 1, 100, 0, 1);
        int[][] want = {{0, 110}, {6, 110}, {7, -9}, {13, -9}, {14, 111}, {18, 111}, {19, -9}, {20, -9}, {21, -9}, {28, 111}, {33, 111}, {34, 111}, {35, -9}};
        for (int[] w : want) {
            Check.ask(x, w[1], "way", 0, w[0], 0);
        }
    }

    private static void intoTheNight() {
        RedrawnLines x = Check.stops(0, 0, 5, 0, 10, 0, 15, 0, 20, 0, 25, 0, 30, 0, 35, 0);
        Check.line(x, 0, 1439, 1, 1439, 0, 30, 1, 30, 2, 30, 3, 30, 4, 30, 5, 30, 6, 30, 7, 0);
        Check.line(x, 0, 0, 1, 0, 0, 5, 7, 0);
        x.trip(0, 7, 1439, 0, 1);
        x.trip(0, 7, 1, 0, 3);
        x.trip(0, 6, 1439, 30, 0);
        x.trip(0, 7, 0, 0, 3);
        way(x, 0, 0, 1649, 1, 0);
        way(x, 1, 59, 1649, 1, 0);
        way(x, 2, 0, 1469, 0, 30);
        way(x, 3, 0, 5, 1, 0);
        // A bus of the next day is none of this one.
        x.days(0, 0, 0);
        way(x, 0, 1);
        way(x, 1, 1);
    }

    private static RedrawnLines twoWays(int most, int leg) {
        RedrawnLines x = Check.stops(0, 0, 10, 0, 30, 0);
        Check.line(x, 0, 100, 1, 100, 0, 30, 2, 0);
        Check.line(x, 0, 110, 1, 110, 1, leg, 2, 0);
        x.trip(0, 2, 100, most, 3);
        return x;
    }

    private static void soonest() {
        Check.says("The BEST: the one that is there first; of several with the fewest RIDES; of these with the least walked.");
        way(twoWays(10, 19), 0, 0, 129, 1, 10);
        way(twoWays(10, 20), 0, 0, 130, 1, 0);
        way(twoWays(10, 21), 0, 0, 130, 1, 0);
        way(twoWays(9, 19), 0, 0, 130, 1, 0);
        way(twoWays(30, 19), 0, 0, 129, 1, 10);
        way(twoWays(30, 20), 0, 0, 130, 0, 30);
        way(twoWays(29, 20), 0, 0, 130, 1, 0);
        // More rides and more walked, but a minute sooner.
        RedrawnLines x = Check.stops(0, 0, 20, 0, 30, 0, 40, 40);
        Check.line(x, 0, 100, 1, 100, 0, 20, 1, 20, 3, 0);
        Check.line(x, 0, 130, 1, 130, 2, 9, 3, 0);
        x.trip(0, 3, 100, 10, 2);
        x.trip(0, 3, 100, 10, 1);
        way(x, 0, 0, 139, 2, 10);
        way(x, 1, 0, 140, 1, 0);
    }

    private static void fewestRides() {
        RedrawnLines x = Check.stops(0, 0, 10, 0, 40, 0);
        Check.line(x, 0, 100, 1, 100, 0, 5, 1, 0);
        Check.line(x, 0, 110, 1, 110, 1, 20, 2, 0);
        x.trip(0, 2, 100, 10, 3);
        x.trip(0, 2, 100, 9, 3);
        x.trip(0, 2, 100, 10, 1);
        x.trip(0, 2, 100, 9, 1);
        x.trip(0, 1, 95, 10, 3);
        x.trip(0, 1, 95, 9, 3);
        way(x, 0, 0, 130, 1, 10);
        way(x, 1, 0, 130, 2, 0);
        way(x, 2, 0, 130, 1, 10);
        way(x, 3, 0);
        way(x, 4, 0, 105, 0, 10);
        way(x, 5, 0, 105, 1, 0);
    }

    private static void leastWalked() {
        RedrawnLines x = Check.stops(0, 0, 3, 0, 0, 5, 40, 40);
        Check.line(x, 0, 110, 1, 110, 2, 30, 3, 0);
        Check.line(x, 0, 110, 1, 110, 1, 30, 3, 0);
        x.trip(0, 3, 100, 30, 3);
        x.trip(0, 3, 105, 30, 1);
        x.trip(0, 3, 106, 30, 1);
        x.trip(0, 3, 107, 30, 1);
        x.trip(0, 3, 108, 30, 1);
        way(x, 0, 0, 140, 1, 3);
        way(x, 1, 0, 140, 1, 3);
        way(x, 2, 0, 140, 1, 3);
        way(x, 3, 0, 140, 1, 3);
        way(x, 4, 0);
        x.days(1, 9, 9);
        way(x, 0, 0, 140, 1, 5);
        way(x, 1, 0, 140, 1, 5);
        way(x, 2, 0);
    }

    private static void wayRefusals() {
        Check.says("Of the BEST WAY of a TRIP on a DAY: 0 the MINUTE at which it is there, 1 RIDES, 2 walked; NONE: it has none. UNKNOWN; OUTSIDE.");
        RedrawnLines x = Towns.ordinary();
        way(x, 0, 0, 418, 1, 0);
        way(x, 0, 41);
        way(x, 2, 59, 1309, 1, 0);
        for (int none : new int[] {-1, 3, LEAST, MOST}) {
            Unchanged.due(Towns::ordinary, -1, "way", none, 0, 0);
            Unchanged.due(Towns::ordinary, -1, "way", none, 60, 3);
        }
        for (int odd : new int[] {-1, LEAST, MOST}) {
            Unchanged.due(Towns::ordinary, -2, "way", 0, odd, 0);
            Unchanged.due(Towns::ordinary, -2, "way", 0, 0, odd);
        }
        Unchanged.due(Towns::ordinary, -2, "way", 0, 60, 0);
        Unchanged.due(Towns::ordinary, -2, "way", 0, 0, 3);
        Unchanged.due(Towns::ordinary, -2, "way", 0, 41, 3);
        Unchanged.due(Towns::full, -1, "way", 6, 0, 0);
        Unchanged.due(Towns::ordinary, -9, "way", 0, 41, 2);
    }

    /** Day 0: at 410 or 425; day 10: at 411; day 20: no bus. */
    private static RedrawnLines changed() {
        RedrawnLines x = Check.town();
        Check.line(x, 0, 400, 15, 600, 0, 10, 1, 0);
        Check.line(x, 0, 401, 15, 600, 0, 10, 1, 0);
        x.days(0, 0, 9);
        x.days(1, 10, 19);
        x.trip(0, 1, 400, 0, 1);
        x.trip(0, 1, 401, 0, 1);
        x.trip(4, 4, 401, 0, 0);
        x.trip(1, 0, 401, 0, 3);
        x.trip(0, 1, 400, 10, 0);
        x.trip(0, 1, 400, 0, 1);
        return x;
    }

    private static void worse() {
        Check.says("From DAY a to DAY b: a TRIP is WORSE by how much later it is there (9999: it has a WAY on a, none on b); BETTER likewise the other way.");
        RedrawnLines x = changed();
        int[][] lose = {{0, 0, 10, 1}, {0, 10, 0, 0}, {0, 0, 20, 9999}, {0, 20, 0, 0}, {0, 10, 20, 9999}, {0, 5, 5, 0}, {0, 20, 30, 0}, {1, 0, 10, 0}, {1, 10, 0, 14},
            {2, 0, 20, 0}, {3, 0, 20, 0}, {3, 20, 0, 0}, {4, 0, 20, 0}, {5, 9, 10, 1}, {5, 19, 20, 9999}};
        for (int[] w : lose) {
            Check.ask(x, w[3], "lose", w[0], w[1], w[2]);
        }
        Check.says("TRIPS that are WORSE (what 0), BETTER (1), that have no WAY on b (2), as a set; the sums by how much WORSE (3), BETTER (4). OUTSIDE.");
        int[][] who = {{0, 10, 33, 2, 8, 2, 14}, {10, 0, 2, 33, 8, 14, 2}, {0, 20, 35, 0, 43, 29997, 0}, {20, 0, 0, 35, 8, 0, 29997}, {20, 59, 0, 0, 43, 0, 0}, {0, 0, 0, 0, 8, 0, 0}};
        for (int[] w : who) {
            for (int what = 0; what < 5; what++) {
                Check.ask(x, w[2 + what], "who", w[0], w[1], what);
            }
        }
        x = Check.town();
        Check.line(x, 0, 0, 1, 1439, 0, 10, 1, 0);
        x.days(0, 0, 0);
        for (int what = 0; what < 5; what++) {
            Check.ask(x, 0, "who", 0, 1, what);
        }
        for (int t = 0; t < 6; t++) {
            x.trip(0, 1, 1439, 0, 1);
        }
        int[] all = {63, 0, 63, 59994, 0};
        int[] back = {0, 63, 0, 0, 59994};
        for (int what = 0; what < 5; what++) {
            Check.ask(x, all[what], "who", 0, 1, what);
            Check.ask(x, back[what], "who", 1, 0, what);
        }
    }

    private static void loseRefusals() {
        Check.says("By how much a TRIP is WORSE from a DAY to another one (0: it is not). UNKNOWN; OUTSIDE.");
        Check.ask(Towns.ordinary(), 9999, "lose", 0, 40, 41);
        Check.ask(Towns.ordinary(), 0, "lose", 0, 41, 40);
        Check.ask(Towns.ordinary(), 0, "lose", 2, 0, 59);
        for (int none : new int[] {-1, 3, LEAST, MOST}) {
            Unchanged.due(Towns::ordinary, -1, "lose", none, 0, 59);
            Unchanged.due(Towns::ordinary, -1, "lose", none, 60, -1);
        }
        for (int day : new int[] {-1, 60, LEAST, MOST}) {
            Unchanged.due(Towns::ordinary, -2, "lose", 0, day, 0);
            Unchanged.due(Towns::ordinary, -2, "lose", 0, 0, day);
            Unchanged.due(Towns::ordinary, -2, "lose", 0, day, day);
        }
        Unchanged.due(Towns::full, -1, "lose", 6, 0, 0);
    }

    private static void whoRefusals() {
        Check.says("as a set; the sums by how much WORSE (3), BETTER (4). OUTSIDE.");
        for (int day : new int[] {-1, 60, LEAST, MOST}) {
            Unchanged.due(Towns::ordinary, -2, "who", day, 0, 0);
            Unchanged.due(Towns::ordinary, -2, "who", 0, day, 0);
        }
        for (int what : new int[] {-1, 5, LEAST, MOST}) {
            Unchanged.due(Towns::ordinary, -2, "who", 0, 59, what);
            Unchanged.due(RedrawnLines::new, -2, "who", 0, 59, what);
        }
        // Day 40 has no school's bus, day 42 has no line 0: the second trip is there at 428, then at 425.
        int[] answers = {1, 2, 1, 9999, 3};
        for (int what = 0; what < 5; what++) {
            Unchanged.due(Towns::ordinary, answers[what], "who", 40, 42, what);
        }
    }

    private static void offers() {
        Check.says("OFFERED: LINES, 4 ever (they RUN as others, but for best()).");
        RedrawnLines x = Check.town();
        Check.fill(x, 0, 0, 5, 1, 0);
        for (int l = 0; l < 14; l++) {
            x.line(0, 0, 1, 0, 0, 2, 0, 2);
        }
        int[] order = {13, 0, 7, 6};
        for (int k = 0; k < 4; k++) {
            Check.ask(x, k, "many", 4);
            Check.ask(x, k, "offer", order[k]);
            Check.ask(x, -3, "offer", order[k]);
        }
        Check.ask(x, 4, "many", 4);
        Check.ask(x, -4, "offer", 1);
        Check.ask(x, -3, "offer", 13);
        Check.ask(x, 4, "many", 4);
    }

    private static void offerRefusals() {
        Check.says("A LINE is OFFERED: which one it is. UNKNOWN; STATE: it is; FULL.");
        for (int none : new int[] {-1, 3, LEAST, MOST}) {
            Unchanged.due(Towns::ordinary, -1, "offer", none);
        }
        Unchanged.due(Towns::ordinary, -3, "offer", 1);
        Unchanged.due(Towns::ordinary, -3, "offer", 2);
        Check.ask(Towns.ordinary(), 2, "offer", 0);
        Unchanged.due(Towns::full, -4, "offer", 1);
        Unchanged.due(Towns::full, -4, "offer", 13);
        for (int l = 0; l < 4; l++) {
            Unchanged.due(Towns::full, -3, "offer", 3 * l);
        }
        Unchanged.due(Towns::full, -1, "offer", 14);
        Unchanged.due(RedrawnLines::new, -1, "offer", 0);
    }

    private static void best(RedrawnLines x, int day, int minutes, int... want) {
        for (int what = 0; what < 4; what++) {
            Check.ask(x, want[what], "best", day, minutes, what);
        }
    }

    private static void offeredRun() {
        RedrawnLines x = Check.stops(0, 0, 40, 0);
        Check.line(x, 0, 100, 10, 120, 0, 10, 1, 0);
        x.trip(0, 1, 100, 0, 1);
        x.offer(0);
        Check.ask(x, 1, "runs", 0, 0);
        Check.ask(x, 3, "served", 0, 0);
        Check.ask(x, 110, "way", 0, 0, 0);
        x.driver();
        Check.ask(x, 2, "roster", 0, -1);
        best(x, 0, 0, 0, 0, 0, 0);
        Check.says("A NET for a DAY: a set of OFFERED ones, of those that RUN that DAY; it has these and all not OFFERED that RUN;");
        best(x, 0, 99999, 1, 1, 110, 30);
        Check.line(x, 0, 100, 1, 100, 0, 20, 1, 0);
        best(x, 0, 0, 0, 1, 120, 0);
        best(x, 0, 30, 1, 1, 110, 30);
        x.days(0, 1, 59);
        best(x, 0, 99999, 0, 1, 120, 0);
        x.days(1, 1, 59);
        best(x, 0, 99999, 0, 0, 0, 0);
        best(x, 1, 0, 0, 1, 120, 0);
        best(x, 59, 99999, 1, 1, 110, 30);
    }

    private static void busMinutes() {
        Check.says("its BUS MINUTES: of each in the set how many buses leave, times ROUND.");
        RedrawnLines x = Check.stops(0, 0, 40, 0, 0, 40, 40, 40);
        Check.line(x, 0, 100, 10, 129, 0, 7, 1, 4, 2, 0);
        Check.line(x, 2, 100, 10, 130, 2, 9, 3, 0);
        x.offer(1);
        x.offer(0);
        x.trip(0, 1, 100, 0, 1);
        x.trip(2, 3, 100, 0, 1);
        best(x, 0, 31, 0, 0, 0, 0);
        best(x, 0, 32, 1, 1, 108, 32);
        best(x, 0, 33, 2, 1, 107, 33);
        best(x, 0, 64, 2, 1, 107, 33);
        best(x, 0, 65, 3, 2, 215, 65);
        best(x, 0, 99999, 3, 2, 215, 65);
    }

    private static void mostMinutes() {
        Check.says("The BEST NET for a DAY, BUS MINUTES as told (0 .. 99999): 0 the set, 1 how many TRIPS have a WAY, 2 the sum, 3 BUS MINUTES. OUTSIDE.");
        RedrawnLines x = Check.stops(0, 0, 5, 0, 10, 0, 15, 0, 20, 0, 25, 0, 30, 0, 35, 0);
        Check.line(x, 0, 0, 1, 812, 0, 30, 1, 30, 2, 30, 3, 30, 4, 3, 5, 0);
        Check.line(x, 0, 0, 1, 499, 0, 30, 1, 30, 2, 30, 3, 30, 4, 30, 5, 30, 6, 20, 7, 0);
        Check.ask(x, 123, "ofLine", 0, 7);
        Check.ask(x, 813, "ofLine", 0, 8);
        x.offer(0);
        x.offer(1);
        x.trip(0, 5, 0, 0, 1);
        x.trip(0, 7, 0, 0, 1);
        Check.ask(x, 200, "way", 1, 0, 0);
        best(x, 0, 0, 0, 0, 0, 0);
        best(x, 0, 99998, 0, 0, 0, 0);
        best(x, 0, 99999, 1, 1, 123, 99999);
    }

    private static void netOrder() {
        Check.says("The BEST NET: with no more BUS MINUTES than told; the most TRIPS have a WAY; of several the least sum of MINUTES at which they are there; of several the least as a number (bit k for the k-th OFFERED one).");
        RedrawnLines x = Check.stops(0, 0, 40, 0, 0, 40, 40, 40);
        Check.line(x, 0, 1400, 1, 1400, 2, 30, 3, 0);
        Check.line(x, 0, 100, 1, 100, 0, 20, 1, 0);
        Check.line(x, 0, 100, 1, 100, 0, 20, 1, 0);
        Check.line(x, 0, 1000, 1, 1000, 0, 10, 1, 0);
        for (int l = 3; l >= 0; l--) {
            Check.ask(x, 3 - l, "offer", l);
        }
        x.trip(0, 1, 0, 0, 3);
        x.trip(2, 3, 0, 0, 3);
        best(x, 0, 9, 0, 0, 0, 0);
        best(x, 0, 10, 1, 1, 1010, 10);
        best(x, 0, 19, 1, 1, 1010, 10);
        best(x, 0, 20, 2, 1, 120, 20);
        best(x, 0, 39, 2, 1, 120, 20);
        best(x, 0, 40, 9, 2, 2440, 40);
        best(x, 0, 49, 9, 2, 2440, 40);
        best(x, 0, 50, 10, 2, 1550, 50);
        best(x, 0, 99999, 10, 2, 1550, 50);
        x = Check.stops(0, 0, 40, 0, 40, 40, 0, 40);
        for (int l = 0; l < 4; l++) {
            Check.line(x, 0, 100, 1, 100, l, 5, (l + 1) % 4, 0);
            x.offer(l);
            x.trip(l, (l + 1) % 4, 100, 30, 1);
        }
        int[][] want = {{0, 0, 0, 0, 0}, {4, 0, 0, 0, 0}, {5, 1, 1, 105, 5}, {9, 1, 1, 105, 5}, {10, 3, 2, 210, 10}, {15, 7, 3, 315, 15}, {19, 7, 3, 315, 15}, {20, 15, 4, 420, 20}};
        for (int[] w : want) {
            best(x, 0, w[0], w[1], w[2], w[3], w[4]);
        }
    }

    private static void netsOfADay() {
        Check.says("a set of OFFERED ones, of those that RUN that DAY;");
        RedrawnLines x = Check.stops(0, 0, 40, 0);
        Check.line(x, 1, 100, 1, 100, 0, 5, 1, 0);
        Check.line(x, 0, 100, 1, 100, 0, 7, 1, 0);
        x.days(1, 5, 10);
        x.offer(0);
        x.offer(1);
        best(x, 0, 99999, 0, 0, 0, 0);
        x.trip(0, 1, 100, 0, 1);
        int[][] want = {{0, 1, 1, 105, 5}, {4, 1, 1, 105, 5}, {5, 2, 1, 107, 7}, {6, 2, 1, 107, 7}, {7, 1, 1, 105, 5}, {10, 1, 1, 105, 5}, {12, 0, 0, 0, 0}, {59, 1, 1, 105, 5}};
        for (int[] w : want) {
            best(x, w[0], 99999, w[1], w[2], w[3], w[4]);
        }
        best(new RedrawnLines(), 0, 0, 0, 0, 0, 0);
        best(new RedrawnLines(), 59, 99999, 0, 0, 0, 0);
    }

    private static void bestRefusals() {
        Check.says("BUS MINUTES as told (0 .. 99999): 0 the set, 1 how many TRIPS have a WAY, 2 the sum, 3 BUS MINUTES. OUTSIDE.");
        for (int odd : new int[] {-1, LEAST, MOST}) {
            Unchanged.due(Towns::ordinary, -2, "best", odd, 0, 0);
            Unchanged.due(Towns::ordinary, -2, "best", 0, odd, 0);
            Unchanged.due(Towns::ordinary, -2, "best", 0, 0, odd);
        }
        Unchanged.due(Towns::ordinary, -2, "best", 60, 0, 0);
        Unchanged.due(Towns::ordinary, -2, "best", 0, 100000, 0);
        Unchanged.due(Towns::ordinary, -2, "best", 0, 0, 4);
        // Lines 1 and 2 are offered: 3 buses of 17 minutes, 7 of 9.
        int[] answers = {3, 3, 418 + 425 + 1309, 51 + 63};
        for (int what = 0; what < 4; what++) {
            Unchanged.due(Towns::ordinary, answers[what], "best", 0, 114, what);
        }
        int[] fewer = {2, 3, 418 + 428 + 1309, 63};
        for (int what = 0; what < 4; what++) {
            Unchanged.due(Towns::ordinary, fewer[what], "best", 0, 113, what);
        }
    }
}
