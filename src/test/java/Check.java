/** What the tests share: answers that are due, and short ways to make lines and texts. */
final class Check {
    private static int wrong = 0;
    private static int seen = 0;

    private Check() {
    }

    static void due(String call, long got, long want) {
        seen++;
        if (got != want) {
            wrong++;
            System.out.println(call + " answered " + got + ", due is " + want);
        }
    }

    /** Ends the test: exit code 1 if an answer was not the one due, or if nothing was asked. */
    static void end() {
        System.out.println(seen + " answers, " + wrong + " not as due");
        if (wrong != 0 || seen == 0) {
            System.exit(1);
        }
    }

    /** Fills a sheet (of ints) with numbers. */
    static void fill(RedrawnLines x, int sheet, int... numbers) {
        x.sheet(sheet, 2, numbers.length);
        for (int i = 0; i < numbers.length; i++) {
            x.put(sheet, i, numbers[i]);
        }
    }

    /** A line by rows of a stop and minutes, through sheet 3. */
    static int line(RedrawnLines x, int kind, int first, int every, int last, int... rows) {
        fill(x, 3, rows);
        return x.line(kind, first, every, last, 3, 2, 0, rows.length / 2);
    }

    /** A text by its characters, through sheet 3. */
    static int text(RedrawnLines x, String text) {
        int[] codes = new int[text.length()];
        for (int i = 0; i < codes.length; i++) {
            codes[i] = text.charAt(i);
        }
        fill(x, 3, codes);
        return x.text(3, 2, 0, codes.length);
    }

    /** Six stops: 0 (0,0), 1 (10,0), 2 (20,0), 3 (20,10), 4 (0,10), 5 (5,5). */
    static RedrawnLines town() {
        RedrawnLines x = new RedrawnLines();
        x.stop(0, 0);
        x.stop(10, 0);
        x.stop(20, 0);
        x.stop(20, 10);
        x.stop(0, 10);
        x.stop(5, 5);
        return x;
    }
}
