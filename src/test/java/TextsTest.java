/** Promises 9 to 13: texts, owed, why, served, breach. */
public final class TextsTest {
    public static void main(String[] args) {
        refusals();
        faultPlaces();
        striking();
        served();
        breach();
        Check.end();
    }

    private static void refusals() {
        RedrawnLines x = Check.town();
        Check.due("no such sheet ahead of lane", x.text(4, 9, 0, 0), -1);
        Check.due("sheet -1", x.text(-1, 0, 0, 0), -1);
        Check.due("lane 3 ahead of null", x.text(0, 3, 0, 0), -2);
        Check.due("lane -1", x.text(0, -1, 0, 0), -2);
        Check.due("nothing", x.text(0, 2, -1, -1), -11);
        Check.due("fault", x.fault(), 1);
        x.sheet(0, 1, 5);
        Check.due("cast ahead of size", x.text(0, 0, -1, -1), -12);
        Check.due("fault", x.fault(), 2);
        Check.due("size ahead of index", x.text(0, 1, -1, -1), -14);
        Check.due("fault", x.fault(), 4);
        Check.due("i below 0", x.text(0, 1, -1, 0), -13);
        Check.due("i beyond, none taken", x.text(0, 1, 6, 0), -13);
        Check.due("cells beyond", x.text(0, 1, 2, 4), -13);
        Check.due("so many that it wraps", x.text(0, 1, 5, Integer.MAX_VALUE), -13);
        Check.due("fault", x.fault(), 3);
        Check.due("none, at the end", x.text(0, 1, 5, 0), -100);
        Check.due("a first fault is no fault", x.fault(), 0);
        for (int k = 0; k < 12; k++) {
            Check.due("text " + k, Check.text(x, "s0>1@0-59"), k);
        }
        Check.due("first fault ahead of full", Check.text(x, "s0>1@0-60"), -107);
        Check.due("full", Check.text(x, "s0>1@0-59"), -4);
        Check.due("many(2)", x.many(2), 12);
    }

    private static void faultPlaces() {
        RedrawnLines x = new RedrawnLines();
        Check.due("no stop at all", Check.text(x, "s0>1@0-59"), -101);
        x = Check.town();
        String[] texts = {"", "x", "s", "sx", "s0", "s0x", "s0>", "s0>x", "s0>1", "s0>1x", "s0>1@", "s0>1@-", "s0>1@0", "s0>1@0>",
            "s0>1@0-", "s0>1@0-x", "s0>1@0-0x", "s0>1@0-0 ", "s6>1@0-0", "s6", "s005>1@0-0x", "s0005", "s999x", "s0>9999", "s0>1@60-61",
            "s0>1@59-58", "s0>1@5-4x", "s0>1@5-", "s0>1@0-60", "s0>1@0-599", "s0>1@0-0599", "s0>1@60", "S0>1@0-0", "s-1>1@0-0", "s0>-", "s0 >1@0-0",
            "s>1@0-0", "s0>@0-0", "s/", "s:", "s600", "s0:", "s0/"};
        int[] places = {0, 0, 1, 1, 2, 2, 3, 3, 4, 4, 5, 5, 6, 6,
            7, 7, 8, 8, 1, 1, 10, 4, 1, 6, 5,
            8, 7, 7, 7, 7, 10, 5, 0, 1, 3, 2,
            1, 3, 1, 1, 1, 2, 2};
        for (int k = 0; k < texts.length; k++) {
            Check.due("text \"" + texts[k] + "\"", Check.text(x, texts[k]), -100 - places[k]);
        }
        Check.due("none of these is a text", x.many(2), 0);
        Check.due("three digits each", Check.text(x, "s005>999@000-059"), 0);
        Check.due("owed", x.owed(5, 59), 999);
        Check.due("of the middle of a sheet", middle(x), 1);
        Check.due("owed", x.owed(3, 2), 4);
        Check.fill(x, 3, 256 + 115, 48);
        Check.due("a code that is not cut to s", x.text(3, 2, 0, 2), -100);
    }

    private static int middle(RedrawnLines x) {
        String text = "xxs3>4@2-2yy";
        x.sheet(1, 0, text.length());
        for (int i = 0; i < text.length(); i++) {
            x.put(1, i, text.charAt(i));
        }
        return x.text(1, 0, 2, 8);
    }

    private static void striking() {
        RedrawnLines x = Check.town();
        Check.due("owed, no text", x.owed(0, 0), 0);
        Check.due("why, no text", x.why(0, 0), -9);
        Check.text(x, "s0>10@0-20");
        Check.text(x, "s0>5@10-15");
        Check.text(x, "s1>7@12-12");
        Check.text(x, "s0>0@15-30");
        int[][] want = {{0, 10, 0}, {9, 10, 0}, {10, 5, 1}, {14, 5, 1}, {15, 0, 3}, {20, 0, 3}, {30, 0, 3}, {31, 0, -9}};
        for (int[] w : want) {
            Check.due("owed(0, " + w[0] + ")", x.owed(0, w[0]), w[1]);
            Check.due("why(0, " + w[0] + ")", x.why(0, w[0]), w[2]);
        }
        Check.due("owed(1, 11)", x.owed(1, 11), 0);
        Check.due("owed(1, 12)", x.owed(1, 12), 7);
        Check.due("why(1, 12)", x.why(1, 12), 2);
        Check.due("why(1, 13)", x.why(1, 13), -9);
        for (int[] s : new int[][] {{-1, 60}, {6, 0}}) {
            Check.due("owed of no stop", x.owed(s[0], s[1]), -1);
            Check.due("why of no stop", x.why(s[0], s[1]), -1);
            Check.due("served of no stop", x.served(s[0], s[1]), -1);
        }
        for (int day : new int[] {-1, 60}) {
            Check.due("owed, no day", x.owed(0, day), -2);
            Check.due("why, no day", x.why(0, day), -2);
            Check.due("served, no day", x.served(0, day), -2);
            Check.due("breach, no day", x.breach(day), -2);
        }
    }

    private static void served() {
        RedrawnLines x = Check.town();
        Check.line(x, 0, 0, 100, 350, 0, 5, 1, 5, 2, 0);
        Check.line(x, 1, 1439, 1, 1439, 1, 30, 0, 5, 3, 0);
        x.days(0, 4, 8);
        Check.due("day 0: the school's", x.served(0, 0), 1);
        Check.due("day 4: both", x.served(0, 4), 5);
        Check.due("day 5: no school", x.served(0, 5), 4);
        Check.due("day 9: the school's", x.served(1, 9), 1);
        Check.due("where they end", x.served(2, 4), 0);
        Check.due("where the other ends", x.served(3, 4), 0);
        Check.due("in the middle", x.served(1, 4), 5);
        Check.due("none", x.served(5, 4), 0);
    }

    private static void breach() {
        RedrawnLines x = Check.town();
        Check.line(x, 0, 0, 100, 350, 0, 5, 1, 5, 2, 0);
        x.days(0, 0, 3);
        Check.due("nothing owed", x.breach(0), 0);
        Check.text(x, "s0>4@0-9");
        Check.text(x, "s1>5@0-9");
        Check.text(x, "s2>1@3-4");
        Check.text(x, "s5>0@0-59");
        Check.due("as many as owed is enough", x.breach(0), 2);
        Check.due("where they end", x.breach(3), 6);
        Check.due("it runs no more", x.breach(4), 7);
        Check.due("day 9", x.breach(9), 3);
        Check.due("day 10", x.breach(10), 0);
    }
}
