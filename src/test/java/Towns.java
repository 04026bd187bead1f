/** Towns in which the tests make a call that changes nothing; each takes far fewer than 200 calls. */
final class Towns {
    private Towns() {
    }

    /** Some of everything, and room for more: six stops, three lines (one of a kind each), sheet 3 with nothing. */
    static RedrawnLines ordinary() {
        RedrawnLines x = Check.town();
        Check.line(x, 0, 400, 15, 600, 0, 10, 1, 8, 2, 0);
        Check.line(x, 1, 420, 30, 500, 2, 5, 3, 12, 4, 0);
        Check.line(x, 2, 1300, 20, 1439, 4, 1, 5, 9, 3, 0);
        x.days(0, 0, 40);
        Check.text(x, "s0>20@0-30");
        Check.text(x, "s2>3@5-59");
        x.trip(0, 2, 395, 10, 2);
        x.trip(0, 3, 390, 20, 3);
        x.trip(4, 3, 1290, 0, 1);
        x.offer(1);
        x.offer(2);
        x.depot(0, 0, 1);
        x.depot(20, 10, 2);
        x.driver();
        x.driver();
        x.driver();
        x.know(0, 0, true);
        x.know(1, 0, true);
        x.know(2, 2, true);
        x.board(0, true);
        x.board(3, true);
        x.waiting(0, 0, 30);
        x.waiting(0, 1, 50);
        x.waiting(2, 0, 7);
        x.seats(7);
        x.tell(2);
        x.hail(0);
        x.drop(3);
        Check.fillLane(x, 0, 0, 1, 2, 3, 4, 5, 6, 7, 8, 9);
        Check.fillLane(x, 1, 1, 300, -300, 5, 6);
        Check.fillLane(x, 2, 2, 0, 5, 1, 5, 2, 5, 3, 5, 4, 5, 5, 5, 0, 5, 1, 5, 2, 5, 3, 5);
        return x;
    }

    /** As many of everything as there are ever. */
    static RedrawnLines full() {
        RedrawnLines x = new RedrawnLines();
        x.sheet(2, 2, 60);
        for (int s = 0; s < 16; s++) {
            x.stop(s * 5 % 41, s * 13 % 41);
            x.put(2, 2 * s, s);
            x.put(2, 2 * s + 1, 5);
        }
        for (int l = 0; l < 14; l++) {
            x.line(l % 3, 300 + 10 * l, 20, 800, 2, 2, 2 * (l % 8), 2 + l % 7);
        }
        for (int l = 6; l < 14; l++) {
            x.days(l, l, 45);
        }
        Check.fillLane(x, 1, 1, Check.codes("s0>7@0-59"));
        for (int k = 0; k < 12; k++) {
            x.put(1, 1, '0' + k % 5);
            x.text(1, 1, 0, 9);
        }
        for (int t = 0; t < 6; t++) {
            x.trip(t, 15 - t, 300 + t, 5 * t, 3);
            x.driver();
            x.know(t, t, true);
            x.board(2 * t, true);
        }
        for (int k = 0; k < 4; k++) {
            x.offer(3 * k);
            x.depot(10 * k, 40, 3);
        }
        x.waiting(13, 0, 999);
        x.sheet(0, 0, 60);
        x.sheet(3, 1, 60);
        return x;
    }
}
