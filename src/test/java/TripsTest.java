/** Promises 14 to 19: trips, their ways, who is worse, offered lines and the best net. */
public final class TripsTest {
    public static void main(String[] args) {
        trips();
        walksAndRides();
        changes();
        ties();
        nights();
        beforeAndAfter();
        oneMinute();
        offers();
        bestNets();
        Check.end();
    }

    private static void way(RedrawnLines x, int t, int day, int there, int rides, int walked) {
        Check.due("way(" + t + ", " + day + ", 0)", x.way(t, day, 0), there);
        Check.due("way(" + t + ", " + day + ", 1)", x.way(t, day, 1), rides);
        Check.due("way(" + t + ", " + day + ", 2)", x.way(t, day, 2), walked);
    }

    private static void trips() {
        RedrawnLines x = Check.town();
        Check.due("no stop ahead of start", x.trip(6, 0, -1, 0, 0), -1);
        Check.due("no other stop", x.trip(0, -1, 0, 0, 0), -1);
        int[][] outside = {{-1, 0, 0}, {1440, 0, 0}, {0, -1, 0}, {0, 31, 0}, {0, 0, -1}, {0, 0, 4}};
        for (int[] o : outside) {
            Check.due("trip outside", x.trip(0, 1, o[0], o[1], o[2]), -2);
        }
        for (int t = 0; t < 6; t++) {
            Check.due("trip " + t, x.trip(0, 1, 1439, 30, 3), t);
        }
        Check.due("outside ahead of full", x.trip(0, 1, 0, 0, 4), -2);
        Check.due("full", x.trip(0, 1, 0, 0, 0), -4);
        Check.due("many(3)", x.many(3), 6);
        Check.due("way of no trip ahead of day", x.way(6, 60, 0), -1);
        Check.due("way of trip -1", x.way(-1, 0, 0), -1);
        for (int[] o : new int[][] {{-1, 0}, {60, 0}, {0, -1}, {0, 3}}) {
            Check.due("way outside", x.way(0, o[0], o[1]), -2);
        }
        Check.due("lose of no trip ahead of day", x.lose(6, 60, 0), -1);
        Check.due("lose of trip -1", x.lose(-1, 0, 0), -1);
        for (int[] o : new int[][] {{-1, 0}, {60, 0}, {0, -1}, {0, 60}}) {
            Check.due("lose outside", x.lose(0, o[0], o[1]), -2);
            Check.due("who outside", x.who(o[0], o[1], 0), -2);
        }
        Check.due("who -1", x.who(0, 0, -1), -2);
        Check.due("who 5", x.who(0, 0, 5), -2);
    }

    private static void walksAndRides() {
        RedrawnLines x = Check.town();
        Check.line(x, 0, 400, 15, 600, 0, 10, 1, 8, 2, 0);
        x.trip(0, 0, 1439, 0, 0);
        x.trip(0, 2, 400, 19, 0);
        x.trip(0, 2, 400, 20, 0);
        x.trip(0, 2, 400, 20, 1);
        x.trip(2, 0, 400, 0, 3);
        x.trip(0, 2, 596, 0, 3);
        way(x, 0, 0, 1439, 0, 0);
        way(x, 1, 0, -9, -9, -9);
        way(x, 2, 0, 420, 0, 20);
        way(x, 3, 0, 418, 1, 0);
        way(x, 4, 0, -9, -9, -9);
        way(x, 5, 0, -9, -9, -9);
        x.days(0, 1, 59);
        way(x, 3, 0, 420, 0, 20);
        way(x, 3, 1, 418, 1, 0);
    }

    private static void changes() {
        RedrawnLines x = Check.town();
        Check.line(x, 0, 400, 15, 600, 0, 10, 1, 8, 2, 0);
        Check.line(x, 1, 410, 60, 600, 1, 7, 4, 0);
        Check.line(x, 0, 427, 20, 600, 5, 4, 3, 0);
        x.trip(0, 4, 391, 0, 2);
        x.trip(0, 3, 391, 10, 3);
        x.trip(0, 3, 391, 9, 3);
        x.trip(0, 3, 391, 10, 2);
        x.trip(0, 4, 391, 0, 1);
        x.trip(0, 3, 401, 30, 3);
        way(x, 0, 0, 417, 2, 0);
        way(x, 1, 0, 428, 1, 10);
        way(x, 2, 0, -9, -9, -9);
        way(x, 3, 0, 428, 1, 10);
        way(x, 4, 0, -9, -9, -9);
        way(x, 5, 0, 431, 0, 30);
        x.days(2, 59, 59);
        way(x, 1, 0, 428, 1, 10);
        way(x, 0, 5, -9, -9, -9);
        way(x, 5, 0, 431, 0, 30);
    }

    private static void ties() {
        RedrawnLines x = new RedrawnLines();
        x.stop(0, 0);
        x.stop(4, 0);
        x.stop(8, 0);
        x.stop(8, 0);
        Check.line(x, 0, 100, 10, 200, 0, 6, 1, 6, 2, 0);
        Check.line(x, 0, 106, 10, 200, 1, 2, 3, 0);
        Check.line(x, 0, 100, 1, 100, 0, 8, 2, 0);
        x.trip(0, 2, 100, 8, 3);
        x.trip(0, 2, 100, 7, 3);
        x.trip(0, 3, 100, 7, 3);
        x.trip(0, 3, 98, 4, 3);
        x.trip(0, 2, 96, 30, 3);
        way(x, 0, 0, 108, 0, 8);
        way(x, 1, 0, 108, 1, 0);
        way(x, 2, 0, 108, 1, 0);
        way(x, 3, 0, 108, 1, 0);
        way(x, 4, 0, 104, 0, 8);
        x.days(2, 5, 5);
        way(x, 1, 0, 108, 1, 4);
        way(x, 2, 0, 108, 1, 4);
    }

    private static void nights() {
        RedrawnLines x = Check.town();
        Check.line(x, 2, 1430, 9, 1439, 0, 1, 1, 30, 2, 0);
        Check.line(x, 0, 1439, 1, 1439, 3, 30, 2, 10, 4, 0);
        x.trip(0, 2, 1430, 0, 1);
        x.trip(0, 4, 1439, 10, 3);
        x.trip(3, 4, 1439, 10, 3);
        x.trip(2, 4, 1439, 10, 3);
        way(x, 0, 0, 1460, 1, 0);
        way(x, 1, 0, 1449, 0, 10);
        way(x, 2, 0, 1479, 1, 0);
        way(x, 3, 0, 1479, 1, 0);
        way(x, 0, 5, 1460, 1, 0);
    }

    private static void beforeAndAfter() {
        RedrawnLines x = Check.town();
        Check.line(x, 0, 400, 15, 600, 0, 10, 1, 8, 2, 0);
        Check.line(x, 0, 405, 15, 600, 0, 10, 1, 18, 2, 0);
        x.days(0, 0, 9);
        x.days(1, 10, 19);
        x.trip(0, 1, 400, 0, 1);
        x.trip(0, 2, 400, 0, 1);
        x.trip(0, 1, 401, 0, 1);
        x.trip(0, 1, 401, 10, 1);
        x.trip(4, 1, 401, 0, 1);
        Check.due("lose(0, 0, 10)", x.lose(0, 0, 10), 5);
        Check.due("lose(0, 10, 0)", x.lose(0, 10, 0), 0);
        Check.due("lose(1, 0, 10)", x.lose(1, 0, 10), 15);
        Check.due("lose(2, 0, 10)", x.lose(2, 0, 10), 0);
        Check.due("lose(2, 10, 0)", x.lose(2, 10, 0), 10);
        Check.due("lose(3, 0, 20): it walks", x.lose(3, 0, 20), 0);
        Check.due("lose(2, 0, 20)", x.lose(2, 0, 20), 9999);
        Check.due("lose(2, 20, 0)", x.lose(2, 20, 0), 0);
        Check.due("lose(4, 0, 20)", x.lose(4, 0, 20), 0);
        Check.due("lose(1, 3, 3)", x.lose(1, 3, 3), 0);
        int[][] want = {{0, 10, 3, 4, 16, 20, 10}, {10, 0, 4, 3, 16, 10, 20}, {0, 20, 7, 0, 23, 29997, 0}, {20, 0, 0, 7, 16, 0, 29997}, {20, 20, 0, 0, 23, 0, 0}};
        for (int[] w : want) {
            for (int what = 0; what < 5; what++) {
                Check.due("who(" + w[0] + ", " + w[1] + ", " + what + ")", x.who(w[0], w[1], what), w[2 + what]);
            }
        }
    }

    private static void oneMinute() {
        RedrawnLines x = Check.town();
        Check.line(x, 0, 400, 15, 600, 0, 10, 1, 0);
        Check.line(x, 0, 401, 15, 600, 0, 10, 1, 0);
        x.days(0, 0, 0);
        x.days(1, 1, 1);
        x.trip(0, 1, 400, 0, 1);
        Check.due("a minute worse", x.who(0, 1, 0), 1);
        Check.due("a minute better", x.who(1, 0, 1), 1);
    }

    private static void offers() {
        RedrawnLines x = Check.town();
        Check.due("no line", x.offer(0), -1);
        for (int l = 0; l < 6; l++) {
            Check.line(x, 0, 0, 1, 0, 0, 5, 1, 0);
        }
        Check.due("line -1", x.offer(-1), -1);
        Check.due("the first", x.offer(3), 0);
        Check.due("it is", x.offer(3), -3);
        Check.due("the second", x.offer(0), 1);
        Check.due("the third", x.offer(5), 2);
        Check.due("the fourth", x.offer(1), 3);
        Check.due("it is, ahead of full", x.offer(0), -3);
        Check.due("full", x.offer(2), -4);
        Check.due("many(4)", x.many(4), 4);
        x.trip(0, 1, 0, 0, 1);
        Check.due("offered ones run as others", x.way(0, 0, 0), 5);
        best(x, 0, 99999, 0, 1, 5, 0);
        best(x, 0, 4, 0, 1, 5, 0);
        x.days(2, 9, 9);
        x.days(4, 9, 9);
        best(x, 0, 4, 0, 0, 0, 0);
        best(x, 0, 5, 1, 1, 5, 5);
    }

    private static void best(RedrawnLines x, int day, int minutes, int set, int going, int sum, int used) {
        String call = "best(" + day + ", " + minutes + ", ";
        Check.due(call + "0)", x.best(day, minutes, 0), set);
        Check.due(call + "1)", x.best(day, minutes, 1), going);
        Check.due(call + "2)", x.best(day, minutes, 2), sum);
        Check.due(call + "3)", x.best(day, minutes, 3), used);
    }

    private static void bestNets() {
        RedrawnLines x = Check.town();
        for (int[] o : new int[][] {{-1, 0, 0}, {60, 0, 0}, {0, -1, 0}, {0, 100000, 0}, {0, 0, -1}, {0, 0, 4}}) {
            Check.due("best outside", x.best(o[0], o[1], o[2]), -2);
        }
        Check.line(x, 0, 100, 10, 190, 0, 10, 1, 0);
        Check.line(x, 0, 100, 50, 199, 0, 20, 1, 20, 2, 0);
        Check.line(x, 1, 100, 10, 190, 1, 9, 2, 0);
        Check.line(x, 2, 100, 10, 190, 3, 10, 4, 0);
        Check.line(x, 0, 500, 10, 500, 3, 10, 4, 0);
        Check.line(x, 0, 300, 10, 300, 3, 30, 4, 0);
        x.offer(2);
        x.offer(1);
        x.offer(0);
        x.offer(5);
        best(x, 0, 99999, 0, 0, 0, 0);
        x.trip(0, 2, 100, 0, 3);
        x.trip(3, 4, 250, 0, 1);
        best(x, 0, 0, 0, 1, 510, 0);
        best(x, 0, 29, 0, 1, 510, 0);
        best(x, 0, 30, 8, 1, 330, 30);
        best(x, 0, 79, 8, 1, 330, 30);
        best(x, 0, 80, 2, 2, 650, 80);
        best(x, 0, 109, 2, 2, 650, 80);
        best(x, 0, 110, 10, 2, 470, 110);
        best(x, 0, 199, 10, 2, 470, 110);
        best(x, 0, 200, 11, 2, 459, 200);
        best(x, 0, 219, 11, 2, 459, 200);
        best(x, 0, 220, 13, 2, 449, 220);
        best(x, 0, 99999, 13, 2, 449, 220);
        best(x, 5, 99999, 10, 2, 470, 110);
        x.days(5, 9, 9);
        x.days(4, 9, 9);
        best(x, 5, 99999, 2, 1, 140, 80);
        best(x, 5, 10, 0, 0, 0, 0);
        x.days(1, 9, 9);
        best(x, 0, 99999, 5, 1, 119, 190);
        best(x, 5, 99999, 0, 0, 0, 0);
    }
}
