/** What the tests share: answers that are due, and short ways to make lines and texts. */
final class Check {
    private static int wrong = 0;
    private static int seen = 0;
    private static String sentence = "";
    private static int seenAtSentence = 0;

    private Check() {
    }

    /** The document's sentence that the answers from here on show. */
    static void says(String quoted) {
        endOfSentence();
        sentence = quoted;
        seenAtSentence = seen;
    }

    private static void endOfSentence() {
        if (!sentence.isEmpty() && seen == seenAtSentence) {
            wrong++;
            System.out.println("nothing shows \"" + sentence + "\"");
        }
    }

    static void due(String call, long got, long want) {
        seen++;
        if (got != want) {
            wrong++;
            System.out.println(call + " answered " + got + ", due is " + want + (sentence.isEmpty() ? "" : " (\"" + sentence + "\")"));
        }
    }

    /** The call of that name answers what is due. */
    static void ask(RedrawnLines x, long want, String name, Object... args) {
        due(Calls.told(name, args), Calls.answer(x, name, args), want);
    }

    /** Ends the test: exit code 1 if an answer was not the one due, or if nothing was asked. */
    static void end() {
        endOfSentence();
        System.out.println(seen + " answers, " + wrong + " not as due");
        if (wrong != 0 || seen == 0) {
            System.exit(1);
        }
    }

    /** Fills a sheet (of ints) with numbers. */
    static void fill(RedrawnLines x, int sheet, int... numbers) {
        fillLane(x, sheet, 2, numbers);
    }

    static void fillLane(RedrawnLines x, int sheet, int lane, int... numbers) {
        x.sheet(sheet, lane, numbers.length);
        for (int i = 0; i < numbers.length; i++) {
            x.put(sheet, i, numbers[i]);
        }
    }

    /** A line by rows of a stop and minutes, through sheet 3. */
    static int line(RedrawnLines x, int kind, int first, int every, int last, int... rows) {
        fill(x, 3, rows);
        return x.line(kind, first, every, last, 3, 2, 0, rows.length / 2);
    }

    static int[] codes(String text) {
        int[] codes = new int[text.length()];
        for (int i = 0; i < codes.length; i++) {
            codes[i] = text.charAt(i);
        }
        return codes;
    }

    /** A text by its characters, through sheet 3. */
    static int text(RedrawnLines x, String text) {
        fill(x, 3, codes(text));
        return x.text(3, 2, 0, text.length());
    }

    /** Stops by their places, x and y of each. */
    static RedrawnLines stops(int... places) {
        RedrawnLines x = new RedrawnLines();
        for (int i = 0; i + 1 < places.length; i += 2) {
            x.stop(places[i], places[i + 1]);
        }
        return x;
    }

    /** Six stops: 0 (0,0), 1 (10,0), 2 (20,0), 3 (20,10), 4 (0,10), 5 (5,5). */
    static RedrawnLines town() {
        return stops(0, 0, 10, 0, 20, 0, 20, 10, 0, 10, 5, 5);
    }
}
