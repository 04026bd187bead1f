import java.lang.reflect.Method;
import java.lang.reflect.Modifier;
import java.util.ArrayList;
import java.util.List;
import java.util.Random;

/** Runs of up to 512 calls, always the same ones, each answered by RedrawnLines and by Plain. */
public final class RandomRunsTest {
    private static final int RUNS = Integer.getInteger("runs", 400);
    private static final int SEED = Integer.getInteger("seed", 1);
    private static final List<Method> CALLS = new ArrayList<>();
    private static final List<Method> PLAIN = new ArrayList<>();

    private final Random random;
    private final RedrawnLines x = new RedrawnLines();
    private final Plain plain = new Plain();
    private final int run;
    private final int wild;
    private final int spread;
    private int made = 0;

    private RandomRunsTest(int run) {
        this.run = run;
        random = new Random(1000003L * SEED + run);
        wild = run % 3 == 0 ? 4 : 40;
        spread = run % 2 == 0 ? 41 : 12;
    }

    public static void main(String[] args) throws Exception {
        for (Method m : RedrawnLines.class.getDeclaredMethods()) {
            if (Modifier.isPublic(m.getModifiers())) {
                CALLS.add(m);
            }
        }
        CALLS.sort((a, b) -> a.getName().compareTo(b.getName()));
        for (Method m : CALLS) {
            PLAIN.add(Plain.class.getDeclaredMethod(m.getName(), m.getParameterTypes()));
        }
        for (int run = 0; run < RUNS; run++) {
            new RandomRunsTest(run).go();
        }
        Check.end();
    }

    private void go() throws Exception {
        int most = 100 + below(412);
        int firstStops = run % 5 == 0 ? 16 : 2 + below(9);
        for (int k = 0; k < firstStops; k++) {
            call("stop", below(spread), below(spread));
        }
        int firstLines = run % 10 == 0 ? 14 : below(9);
        for (int k = 0; k < firstLines; k++) {
            makeLine();
        }
        while (made < most) {
            int pick = below(60);
            if (pick < 2) {
                makeLine();
            } else if (pick < 5) {
                makeText();
            } else if (pick < 7) {
                askWay();
            } else {
                anyCall();
            }
        }
    }

    private int below(int n) {
        return random.nextInt(n);
    }

    /** A number from 0 to most; now and then one about the edges, or any at all. */
    private int upTo(int most) {
        int pick = below(wild);
        if (pick == 0) {
            int[] odd = {-1, -2, most + 1, most, most + 2, Integer.MAX_VALUE, Integer.MIN_VALUE, 1 << 30};
            return odd[below(odd.length)];
        }
        return below(most + 1);
    }

    private int lines() {
        return Math.max(0, plain.many(1) - 1);
    }

    private int stops() {
        return Math.max(0, plain.many(0) - 1);
    }

    /** An object is good for 512 calls: what is asked behind them is left out. */
    private long call(String name, Object... args) throws Exception {
        if (made == 512) {
            return 0;
        }
        for (int k = 0; k < CALLS.size(); k++) {
            if (CALLS.get(k).getName().equals(name)) {
                made++;
                long got = ((Number) CALLS.get(k).invoke(x, args)).longValue();
                long want = ((Number) PLAIN.get(k).invoke(plain, args)).longValue();
                Check.due("run " + run + ", call " + made + ": " + name + java.util.Arrays.toString(args), got, want);
                return got;
            }
        }
        throw new IllegalStateException(name);
    }

    private void makeLine() throws Exception {
        int n = below(12) == 0 ? below(10) : 2 + below(Math.max(1, Math.min(7, stops())));
        int before = below(3);
        int k = below(4);
        int lane = below(3);
        call("sheet", k, lane, before + 2 * n + below(2));
        List<Integer> unlike = new ArrayList<>();
        for (int s = 0; s <= stops(); s++) {
            unlike.add(s);
        }
        java.util.Collections.shuffle(unlike, random);
        for (int i = 0; i < n; i++) {
            int stop = below(wild) == 0 ? upTo(stops()) : unlike.get(i % unlike.size());
            call("put", k, before + 2 * i, stop);
            call("put", k, before + 2 * i + 1, below(wild) == 0 ? upTo(31) : 1 + below(below(2) == 0 ? 30 : 8));
        }
        int first = below(3) == 0 ? below(1440) : 300 + below(200);
        int last = Math.min(1439, first + below(300));
        call("line", upTo(2), below(wild) == 0 ? upTo(1439) : first, below(wild) == 0 ? upTo(240) : 1 + below(60), below(wild) == 0 ? upTo(1439) : last,
            k, lane, before, n);
        call("fault");
        if (below(3) == 0) {
            int from = below(60);
            call("days", lines(), from, from + below(60 - from));
        }
    }

    private void makeText() throws Exception {
        int from = upTo(59);
        StringBuilder text = new StringBuilder("s" + upTo(stops()) + ">" + below(below(2) == 0 ? 1000 : 30) + "@" + from + "-" + upTo(59));
        if (below(3) == 0) {
            String signs = "s>@-0123456789x/:";
            int at = below(text.length());
            switch (below(4)) {
                case 0: text.setCharAt(at, signs.charAt(below(signs.length()))); break;
                case 1: text.deleteCharAt(at); break;
                case 2: text.insert(at, signs.charAt(below(signs.length()))); break;
                default: text.setLength(at); break;
            }
        }
        int k = below(4);
        int lane = below(3);
        text.setLength(Math.min(60, text.length()));
        call("sheet", k, lane, text.length());
        for (int i = 0; i < text.length(); i++) {
            call("put", k, i, (int) text.charAt(i));
        }
        call("text", k, lane, 0, text.length());
        call("fault");
        call("breach", below(60));
    }

    private void askWay() throws Exception {
        if (plain.many(3) < 6) {
            call("trip", upTo(stops()), upTo(stops()), below(2) == 0 ? below(1440) : 250 + below(250), upTo(30), upTo(3));
        }
        int day = below(60);
        for (int t = 0; t < plain.many(3); t++) {
            for (int what = 0; what < 3; what++) {
                call("way", t, day, what);
            }
        }
    }

    private void anyCall() throws Exception {
        Method m = CALLS.get(below(CALLS.size()));
        switch (m.getName()) {
            case "stop": if (below(6) == 0) { call("stop", upTo(spread - 1), upTo(40)); } break;
            case "line": call("line", upTo(2), upTo(1439), upTo(240), upTo(1439), upTo(3), upTo(2), upTo(60), upTo(8)); call("fault"); break;
            case "days": int from = upTo(59); call("days", upTo(lines()), from, below(3) == 0 ? upTo(59) : 59); break;
            case "ofLine": call("ofLine", upTo(lines()), upTo(18)); break;
            case "runs": call("runs", upTo(lines()), upTo(59)); break;
            case "minute": call("minute", upTo(lines()), upTo(7), below(2) == 0 ? upTo(2879) : 300 + below(500)); break;
            case "far": call("far", upTo(stops()), upTo(stops())); break;
            case "text": call("text", upTo(3), upTo(2), upTo(60), upTo(20)); call("fault"); break;
            case "owed": case "why": case "served": call(m.getName(), upTo(stops()), upTo(59)); break;
            case "breach": call("breach", upTo(59)); break;
            case "trip": if (below(4) == 0) { call("trip", upTo(stops()), upTo(stops()), upTo(1439), upTo(30), upTo(3)); } break;
            case "way": call("way", upTo(5), upTo(59), upTo(2)); break;
            case "lose": call("lose", upTo(5), upTo(59), upTo(59)); break;
            case "who": call("who", upTo(59), upTo(59), upTo(4)); break;
            case "offer": call("offer", upTo(lines())); break;
            case "best": if (below(4) == 0) { askBest(); } break;
            case "depot": call("depot", upTo(40), upTo(40), upTo(below(2) == 0 ? 9 : 3)); break;
            case "empty": call("empty", upTo(lines()), upTo(3)); break;
            case "fit": case "roster": askRow(m.getName()); break;
            case "driver": call("driver"); break;
            case "know": call("know", upTo(Math.max(0, plain.many(6) - 1)), upTo(lines()), below(4) != 0); break;
            case "board": call("board", upTo(stops()), below(4) != 0); break;
            case "night": askNight(); break;
            case "waiting": call("waiting", upTo(lines()), upTo(7), upTo(below(2) == 0 ? 999 : 60)); break;
            case "seats": call("seats", upTo(99)); break;
            case "standing": call("standing", upTo(lines()), upTo(8) - 1, upTo(below(4) == 0 ? 999 : 9)); break;
            case "extra": call("extra", upTo(lines())); break;
            case "sheet": call("sheet", upTo(3), upTo(2), upTo(60)); call("fault"); break;
            case "drop": call("drop", upTo(3)); break;
            case "put": call("put", upTo(3), upTo(59), below(3) == 0 ? random.nextInt() : upTo(130)); call("fault"); break;
            case "cell": call("cell", upTo(3), upTo(59), upTo(2)); call("fault"); break;
            case "copy": call("copy", upTo(3), upTo(30), upTo(3), upTo(30), upTo(30)); call("fault"); break;
            case "tell": case "hail": call(m.getName(), upTo(lines())); call("trace"); break;
            case "as": call("as", upTo(lines()), upTo(2)); call("fault"); break;
            case "many": call("many", upTo(7)); break;
            default: call(m.getName()); break;
        }
    }

    private void askBest() throws Exception {
        int day = upTo(59);
        int minutes = below(3) == 0 ? upTo(99999) : below(1500);
        for (int what = 0; what < 4; what++) {
            call("best", day, minutes, what);
        }
    }

    private void askRow(String name) throws Exception {
        int day = upTo(59);
        for (int l = -1; l <= lines(); l++) {
            call(name, day, l);
        }
        call(name, day, upTo(lines()));
    }

    private void askNight() throws Exception {
        int day = upTo(58);
        int stop = upTo(stops());
        int minute = below(3) == 0 ? upTo(2879) : 600 + below(1300);
        for (int k = -1; k <= plain.many(7); k++) {
            call("night", day, stop, minute, k);
        }
    }
}
