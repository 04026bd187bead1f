import java.util.function.Supplier;

/** Terms, part 2, and promises 9 to 13, sentence by sentence: the edges that each one names. */
public final class EdgesTextsTest {
    private static final int LEAST = Integer.MIN_VALUE;
    private static final int MOST = Integer.MAX_VALUE;

    public static void main(String[] args) {
        countOfTexts();
        digits();
        firstFaults();
        codes();
        endsTooSoon();
        numbersNotAsTold();
        textCells();
        textRefusals();
        textOrder();
        owed();
        why();
        served();
        breach();
        Check.end();
    }

    private static void text(RedrawnLines x, String text, int want) {
        Check.due("text \"" + text + "\"", Check.text(x, text), want);
    }

    /** It is faulty at that place, and changes nothing. */
    private static void faulty(String text, int place) {
        Supplier<RedrawnLines> town = () -> withText(Towns.ordinary(), text);
        Unchanged.due(town, -100 - place, "text", 3, 0, 0, text.length());
    }

    private static RedrawnLines withText(RedrawnLines x, String text) {
        Check.fillLane(x, 3, 0, Check.codes(text));
        return x;
    }

    private static void countOfTexts() {
        Check.says("TEXTS, 12 ever, numbered as they come: a STOP, in force from a DAY to a DAY, so many buses a day at least:");
        RedrawnLines x = Check.town();
        for (int k = 0; k < 12; k++) {
            Check.ask(x, k, "many", 2);
            text(x, "s" + k % 6 + ">" + (100 + k) + "@" + k + "-" + (k + 40), k);
        }
        Check.ask(x, 12, "many", 2);
        text(x, "s0>1@0-0", -4);
        Check.ask(x, 12, "many", 2);
        Check.ask(x, 105, "owed", 5, 5);
        Check.ask(x, 5, "why", 5, 10);
        Check.ask(x, 11, "why", 5, 11);
        Check.ask(x, 111, "owed", 5, 51);
        Check.ask(x, -9, "why", 5, 52);
    }

    private static void digits() {
        Check.says("the letter s, a number, the sign >, a number, the sign @, a number, the sign -, a number (1 to 3 digits each).");
        RedrawnLines x = Check.stops(0, 0, 1, 1, 2, 2, 3, 3, 4, 4, 5, 5, 6, 6, 7, 7, 8, 8, 9, 9, 10, 10, 11, 11);
        text(x, "s0>0@0-0", 0);
        text(x, "s00>00@00-00", 1);
        text(x, "s000>000@000-000", 2);
        text(x, "s011>999@059-059", 3);
        text(x, "s11>99@10-58", 4);
        text(x, "s9>9@9-9", 5);
        Check.ask(x, 999, "owed", 11, 59);
        Check.ask(x, 3, "why", 11, 59);
        Check.ask(x, 99, "owed", 11, 10);
        Check.ask(x, 0, "owed", 11, 9);
        Check.ask(x, 9, "owed", 9, 9);
        String[] four = {"s0000>0@0-0", "s0>0000@0-0", "s0>0@0000-0", "s0>0@0-0000"};
        int[] places = {4, 6, 8, 10};
        for (int k = 0; k < 4; k++) {
            text(x, four[k], -100 - places[k]);
        }
        String[] none = {"s>0@0-0", "s0>@0-0", "s0>0@-0", "s0>0@0-"};
        int[] missing = {1, 3, 5, 7};
        for (int k = 0; k < 4; k++) {
            text(x, none[k], -100 - missing[k]);
        }
        Check.ask(x, 6, "many", 2);
    }

    private static void firstFaults() {
        Check.says("FIRST FAULT: the place (from 0 on) of the first code with which no TEXT goes on;");
        String[] texts = {"x0>1@0-9", "sx>1@0-9", "s0x1@0-9", "s0>x@0-9", "s0>1x0-9", "s0>1@x-9", "s0>1@0x9", "s0>1@0-x", "s0>1@0-9x", "s0>1@0-9 ", "s0>1@0-9s0>1@0-9",
            "ss0>1@0-9", "s0>>1@0-9", "s0>1@@0-9", "s0>1@0--9", "0>1@0-9", " s0>1@0-9", "s 0>1@0-9", "s0@1>0-9", "s0>1-0@9", "s12x"};
        int[] places = {0, 1, 2, 3, 4, 5, 6, 7, 8, 8, 8,
            1, 3, 5, 7, 0, 0, 1, 2, 4, 1};
        for (int k = 0; k < texts.length; k++) {
            faulty(texts[k], places[k]);
        }
    }

    private static void codes() {
        Check.says("(Codes: s 115, > 62, @ 64, - 45, digits 48 .. 57.)");
        int[] good = {115, 48, 62, 57, 64, 48, 45, 57};
        RedrawnLines x = Check.town();
        Check.fill(x, 0, good);
        Check.ask(x, 0, "text", 0, 2, 0, 8);
        Check.ask(x, 9, "owed", 0, 9);
        int[][] next = {{0, 114}, {0, 116}, {0, 83}, {1, 47}, {1, 58}, {2, 61}, {2, 63}, {2, 47}, {2, 58}, {3, 47}, {3, 58}, {4, 63}, {4, 65}, {4, 47}, {4, 58}, {5, 47}, {5, 58},
            {6, 44}, {6, 46}, {6, 47}, {6, 58}, {7, 47}, {7, 58}, {0, 115 + 256}, {1, 48 + 256}, {2, 62 + 65536}, {4, -64}, {6, 0}, {7, -1}, {3, LEAST}, {5, MOST}};
        for (int[] n : next) {
            Check.fill(x, 0, good);
            x.put(0, n[0], n[1]);
            Check.due("code " + n[1] + " at " + n[0], x.text(0, 2, 0, 8), -100 - n[0]);
        }
        Check.ask(x, 1, "many", 2);
        Check.fillLane(x, 0, 0, good);
        x.put(0, 0, 115 + 256);
        Check.ask(x, 1, "text", 0, 0, 0, 8);
    }

    private static void endsTooSoon() {
        Check.says("how many codes there are, if it just ends too soon;");
        String whole = "s005>012@003-009";
        for (int n = 0; n < 14; n++) {
            faulty(whole.substring(0, n), n);
        }
        RedrawnLines x = withText(Towns.ordinary(), whole);
        for (int n = 0; n < 14; n++) {
            Check.ask(x, -100 - n, "text", 3, 0, 0, n);
        }
        // With one or two of its last digits it is a text of its own, but its last DAY is ahead of its first.
        Check.ask(x, -113, "text", 3, 0, 0, 14);
        Check.ask(x, -113, "text", 3, 0, 0, 15);
        Check.ask(x, 2, "text", 3, 0, 0, 16);
    }

    private static void numbersNotAsTold() {
        Check.says("a number is read as up to three digits; of one that is not as told (a STOP that there is not, a DAY above 59, to ahead of from) its first digit.");
        RedrawnLines x = Check.town();
        String[] as = {"s5>1@0-0", "s05>1@59-59", "s005>999@0-59", "s0>0@58-59", "s0>0@59-059", "s0>0@5-5", "s0>0@9-10"};
        for (int k = 0; k < as.length; k++) {
            text(x, as[k], k);
        }
        String[] not = {"s6>1@0-0", "s06>1@0-0", "s006>1@0-0", "s999>1@0-0", "s10>1@0-0", "s0>1@60-60", "s0>1@060-59", "s0>1@100-10", "s0>1@0-60", "s0>1@0-060", "s0>1@0-999",
            "s0>1@59-60", "s0>1@1-0", "s0>1@59-58", "s0>1@10-9", "s00>11@10-009", "s6", "s61", "s612", "s6123", "s6x", "s0>1@60", "s0>1@601", "s0>1@6012", "s0>1@60x",
            "s0>1@0-60x", "s0>1@0-6000", "s0>1@5-4x", "s0>1@5-400", "s0>1@5-0040", "s9>1@99-99", "s0>1@99-98"};
        int[] places = {1, 1, 1, 1, 1, 5, 5, 5, 7, 7, 7,
            8, 7, 8, 8, 10, 1, 1, 1, 1, 1, 5, 5, 5, 5,
            7, 7, 7, 7, 7, 1, 5};
        for (int k = 0; k < not.length; k++) {
            faulty(not[k], places[k]);
        }
        Unchanged.due(() -> withText(new RedrawnLines(), "s0>1@0-0"), -101, "text", 3, 0, 0, 8);
        text(Check.stops(0, 0), "s0>1@0-0", 0);
        text(Check.stops(0, 0), "s1>1@0-0", -101);
        x = Towns.full();
        Check.fillLane(x, 3, 0, Check.codes("s15>0@0-0s16>0@0-0"));
        Check.ask(x, -4, "text", 3, 0, 0, 9);
        Check.ask(x, -101, "text", 3, 0, 9, 9);
    }

    private static void textCells() {
        Check.says("A TEXT of n cells of a SHEET from i on, taken as a row of a LANE: its number; -100 less the FIRST FAULT.");
        RedrawnLines x = Check.town();
        for (int lane = 0; lane < 3; lane++) {
            Check.fillLane(x, lane, lane, Check.codes("99s2>" + lane + "@3-4xx"));
            Check.ask(x, 3 * lane, "text", lane, lane, 2, 8);
            Check.ask(x, 3 * lane + 1, "text", lane, lane, 2, 8);
            Check.ask(x, -107, "text", lane, lane, 2, 7);
            Check.ask(x, -108, "text", lane, lane, 2, 9);
            Check.ask(x, -100, "text", lane, lane, 1, 8);
            Check.ask(x, -100, "text", lane, lane, 3, 8);
            Check.ask(x, lane, "owed", 2, 4);
            Check.ask(x, 3 * lane + 1, "why", 2, 3);
            x.put(lane, 9, '3');
            Check.ask(x, 3 * lane + 2, "text", lane, lane, 2, 8);
            Check.ask(x, 3 * lane + 1, "why", 2, 4);
            Check.ask(x, 3 * lane + 2, "why", 2, 3);
        }
        x.drop(2);
        Check.ask(x, 2, "owed", 2, 3);
    }

    private static void textRefusals() {
        Check.says("UNKNOWN; OUTSIDE: lane; CAST (nothing is no CAST); NULL; SIZE: n below 0; INDEX; -100 less it; FULL.");
        Supplier<RedrawnLines> town = Towns::ordinary;
        for (int none : new int[] {-1, 4, LEAST, MOST}) {
            Unchanged.due(town, -1, "text", none, 0, 0, 8);
        }
        for (int lane : new int[] {-1, 3, LEAST, MOST}) {
            Unchanged.due(town, -2, "text", 0, lane, 0, 8);
        }
        for (int sheet = 0; sheet < 3; sheet++) {
            for (int lane = 0; lane < 3; lane++) {
                Unchanged.due(town, lane == sheet ? -100 : -12, "text", sheet, lane, 0, 1);
            }
        }
        for (int lane = 0; lane < 3; lane++) {
            Unchanged.due(town, -11, "text", 3, lane, 0, 1);
        }
        Unchanged.due(town, -14, "text", 0, 0, 0, -1);
        Unchanged.due(town, -14, "text", 0, 0, 0, LEAST);
        int[][] index = {{-1, 0}, {-1, 1}, {10, 0}, {9, 1}, {8, 2}, {0, 10}, {LEAST, 0}, {LEAST, MOST}, {MOST, 0}, {MOST, 1}, {1, MOST}, {0, MOST}};
        for (int[] w : index) {
            Unchanged.due(town, -13, "text", 0, 0, w[0], w[1]);
        }
        for (int[] w : new int[][] {{0, 0}, {9, 0}, {8, 1}, {0, 9}, {5, 4}}) {
            Unchanged.due(town, -100, "text", 0, 0, w[0], w[1]);
        }
        Unchanged.due(() -> withText(Towns.ordinary(), ""), -100, "text", 3, 0, 0, 0);
        Unchanged.due(() -> withText(Towns.ordinary(), ""), -13, "text", 3, 0, 1, 0);
        Unchanged.due(() -> withText(Towns.ordinary(), ""), -13, "text", 3, 0, 0, 1);
        Unchanged.due(Towns::full, -4, "text", 1, 1, 0, 9);
    }

    private static void textOrder() {
        Check.says("Of a call the first that is come to, in the order told;");
        Supplier<RedrawnLines> town = Towns::ordinary;
        Unchanged.due(town, -1, "text", 4, 3, -1, -1);
        Unchanged.due(town, -2, "text", 3, 3, -1, -1);
        Unchanged.due(town, -2, "text", 0, 3, 0, 1);
        Unchanged.due(town, -12, "text", 0, 1, 0, -1);
        Unchanged.due(town, -12, "text", 0, 1, -1, 1);
        Unchanged.due(town, -11, "text", 3, 1, -1, -1);
        Unchanged.due(town, -14, "text", 0, 0, -1, -1);
        Unchanged.due(town, -14, "text", 0, 0, 10, -1);
        Unchanged.due(town, -13, "text", 0, 0, 0, 10);
        Unchanged.due(Towns::full, -13, "text", 1, 1, 1, 9);
        Unchanged.due(Towns::full, -106, "text", 1, 1, 0, 6);
        Unchanged.due(Towns::full, -100, "text", 1, 1, 9, 0);
    }

    /** Stop 0 is owed 10 on days 5 to 20, struck by 7 on 10 to 15, struck by 0 on 15; stop 1 is owed 3 always. */
    private static RedrawnLines owing() {
        RedrawnLines x = Check.town();
        Check.text(x, "s0>10@5-20");
        Check.text(x, "s0>7@10-15");
        Check.text(x, "s1>3@0-59");
        Check.text(x, "s0>0@15-15");
        return x;
    }

    private static void noStopOrDay(String name) {
        for (int none : new int[] {-1, 6, LEAST, MOST}) {
            Unchanged.due(Towns::ordinary, -1, name, none, 0);
            Unchanged.due(Towns::ordinary, -1, name, none, 60);
        }
        for (int day : new int[] {-1, 60, LEAST, MOST}) {
            Unchanged.due(Towns::ordinary, -2, name, 0, day);
        }
        Unchanged.due(Towns::full, -1, name, 16, 0);
        Unchanged.due(RedrawnLines::new, -1, name, 0, 0);
    }

    private static void owed() {
        Check.says("OWED: what the TEXT of greatest number in force for it tells; 0: there is none.");
        RedrawnLines x = owing();
        int[][] want = {{0, 0}, {4, 0}, {5, 10}, {9, 10}, {10, 7}, {14, 7}, {15, 0}, {16, 10}, {20, 10}, {21, 0}, {59, 0}};
        for (int[] w : want) {
            Check.ask(x, w[1], "owed", 0, w[0]);
        }
        Check.ask(x, 3, "owed", 1, 0);
        Check.ask(x, 3, "owed", 1, 59);
        Check.ask(x, 0, "owed", 2, 10);
        Check.says("OWED to a STOP on a DAY. UNKNOWN; OUTSIDE.");
        noStopOrDay("owed");
        Check.ask(Towns.full(), 0, "owed", 15, 59);
        Check.ask(Towns.full(), 7, "owed", 4, 59);
    }

    private static void why() {
        Check.says("The TEXT by which; NONE. UNKNOWN; OUTSIDE.");
        RedrawnLines x = owing();
        int[][] want = {{0, -9}, {4, -9}, {5, 0}, {9, 0}, {10, 1}, {14, 1}, {15, 3}, {16, 0}, {20, 0}, {21, -9}, {59, -9}};
        for (int[] w : want) {
            Check.ask(x, w[1], "why", 0, w[0]);
        }
        Check.ask(x, 2, "why", 1, 0);
        Check.ask(x, 2, "why", 1, 59);
        Check.ask(x, -9, "why", 2, 10);
        noStopOrDay("why");
        Check.ask(Towns.full(), -9, "why", 15, 59);
        Check.ask(Towns.full(), 11, "why", 1, 59);
    }

    private static void served() {
        Check.says("SERVED: how many buses stop there that DAY (not where they end).");
        RedrawnLines x = Towns.ordinary();
        int[][] want = {{0, 14, 14, 3, 3, 7, 7}, {5, 14, 14, 0, 0, 7, 7}, {40, 14, 14, 0, 0, 7, 7}, {42, 0, 0, 3, 3, 7, 7}, {59, 0, 0, 3, 3, 7, 7}};
        for (int[] w : want) {
            for (int s = 0; s < 6; s++) {
                Check.ask(x, w[1 + s], "served", s, w[0]);
            }
        }
        x = Check.town();
        Check.fill(x, 0, 0, 5, 1, 0);
        Check.ask(x, 0, "served", 0, 0);
        for (int l = 0; l < 14; l++) {
            x.line(0, 0, 1, 1439, 0, 2, 0, 2);
            Check.ask(x, 1440 * (l + 1), "served", 0, 0);
        }
        Check.ask(x, 0, "served", 1, 0);
        Check.says("SERVED of a STOP on a DAY. UNKNOWN; OUTSIDE.");
        noStopOrDay("served");
        Check.ask(Towns.full(), 0, "served", 15, 59);
    }

    private static void breach() {
        Check.says("STOPS that are SERVED less than they are OWED on a DAY, as a set. OUTSIDE.");
        RedrawnLines x = Towns.ordinary();
        // Of 14, 14, 3 buses a day on days 0 to 4; stop 0 is owed 20 till 30, stop 2 is owed 3 from 5 on.
        int[][] want = {{0, 1}, {4, 1}, {5, 5}, {7, 1}, {30, 1}, {31, 0}, {33, 4}, {59, 0}};
        for (int[] w : want) {
            Check.ask(x, w[1], "breach", w[0]);
        }
        Check.text(x, "s0>14@0-0");
        Check.ask(x, 0, "breach", 0);
        Check.text(x, "s0>15@0-0");
        Check.ask(x, 1, "breach", 0);
        Check.text(x, "s2>4@0-0");
        Check.ask(x, 5, "breach", 0);
        for (int day : new int[] {-1, 60, LEAST, MOST}) {
            Unchanged.due(Towns::ordinary, -2, "breach", day);
            Unchanged.due(RedrawnLines::new, -2, "breach", day);
        }
        Check.says("Sets are told as bits (bit k for number k).");
        x = new RedrawnLines();
        for (int s = 0; s < 16; s++) {
            x.stop(s, s);
        }
        Check.ask(x, 0, "breach", 59);
        Check.text(x, "s15>1@0-59");
        Check.ask(x, 32768, "breach", 59);
        Check.text(x, "s0>1@0-59");
        Check.ask(x, 32769, "breach", 0);
        Check.text(x, "s10>999@7-7");
        Check.ask(x, 32769 + 1024, "breach", 7);
    }
}
