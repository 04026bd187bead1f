import java.util.ArrayList;
import java.util.Arrays;
import java.util.HashSet;
import java.util.List;
import java.util.Set;
import java.util.regex.Matcher;
import java.util.regex.Pattern;

/**
 * The document's calls once more, by trying everything out: buses one by one, all orders, all nets.
 * It shares no code with RedrawnLines, and takes its faults from the machine itself.
 */
final class Plain {
    private static final int INF = 1000000;
    private static final Pattern[] BEGINNINGS = new Pattern[8];

    static {
        String[] parts = {"s", "(\\d{1,3})", ">", "(\\d{1,3})", "@", "(\\d{1,3})", "-", "(\\d{1,3})"};
        String all = "";
        for (int i = 0; i < 8; i++) {
            all += parts[i];
            BEGINNINGS[i] = Pattern.compile(all);
        }
    }

    static class Line {
        int first, every, last, from = 0, to = 59;
        int[] stops, legs, queue;

        int leg(int k) {
            return legs[k];
        }

        boolean on(int day) {
            return from <= day && day <= to;
        }

        int kind() {
            return 0;
        }

        int told(Plain p) {
            p.body(1);
            return stops.length;
        }

        int hailed(Plain p, int number) {
            p.body(4);
            return number;
        }

        int at(int bus, int k) {
            int minute = bus;
            for (int j = 0; j < k; j++) {
                minute += leg(j);
            }
            return minute;
        }

        List<Integer> buses() {
            List<Integer> all = new ArrayList<>();
            for (int m = first; m <= last; m += every) {
                all.add(m);
            }
            return all;
        }

        int round() {
            return at(0, stops.length - 1);
        }

        int find(int stop) {
            for (int k = 0; k < stops.length; k++) {
                if (stops[k] == stop) {
                    return k;
                }
            }
            return -1;
        }
    }

    static class School extends Line {
        @Override int kind() {
            return 1;
        }

        @Override boolean on(int day) {
            return super.on(day) && day % 7 != 5 && day % 7 != 6;
        }

        @Override int told(Plain p) {
            p.body(2);
            return super.told(p) + first;
        }
    }

    static class Night extends School {
        @Override int kind() {
            return 2;
        }

        @Override boolean on(int day) {
            return from <= day && day <= to;
        }

        @Override int leg(int k) {
            return legs[k] == 1 ? 1 : legs[k] - 1;
        }

        @Override int told(Plain p) {
            p.body(3);
            int sum = super.told(p);
            p.body(1);
            return sum + stops.length;
        }

        @Override int hailed(Plain p, int number) {
            p.body(5);
            return 90;
        }
    }

    private final List<int[]> stops = new ArrayList<>();
    private final List<Line> lines = new ArrayList<>();
    private final List<int[]> texts = new ArrayList<>();
    private final List<int[]> trips = new ArrayList<>();
    private final List<Integer> offers = new ArrayList<>();
    private final List<int[]> depots = new ArrayList<>();
    private final List<Set<Integer>> drivers = new ArrayList<>();
    private final Set<Integer> boards = new java.util.TreeSet<>();
    private final Object[] sheets = new Object[4];
    private int seats = 40, trace = 0, fault = 0;

    private void body(int n) {
        trace = trace * 31 + n;
    }

    private static boolean in(int v, int a, int b) {
        return a <= v && v <= b;
    }

    private boolean noStop(int s) {
        return s < 0 || s >= stops.size();
    }

    private boolean noLine(int l) {
        return l < 0 || l >= lines.size();
    }

    // ---- 1

    int stop(int x, int y) {
        if (!in(x, 0, 40) || !in(y, 0, 40)) {
            return -2;
        }
        if (stops.size() == 16) {
            return -4;
        }
        stops.add(new int[] {x, y});
        return stops.size() - 1;
    }

    /** The cells as they are taken, or null with the fault set. */
    private int[] take(int k, int lane, int i, long width, int n) {
        try {
            Object row = sheets[k];
            Object typed = lane == 0 ? (byte[]) row : lane == 1 ? (short[]) row : (Object) (int[]) row;
            int length = java.lang.reflect.Array.getLength(typed);
            byte[] size = new byte[n < 0 ? n : 0];
            if (i < 0 || i > length || i + width * n > length) {
                throw new ArrayIndexOutOfBoundsException(size.length);
            }
            int[] cells = new int[(int) width * n];
            for (int j = 0; j < cells.length; j++) {
                cells[j] = java.lang.reflect.Array.getInt(typed, i + j);
            }
            return cells;
        } catch (RuntimeException e) {
            fault = faultOf(e);
            return null;
        }
    }

    private static int faultOf(RuntimeException e) {
        if (e instanceof NullPointerException) {
            return 1;
        }
        if (e instanceof ClassCastException || e instanceof ArrayStoreException) {
            return 2;
        }
        if (e instanceof IndexOutOfBoundsException) {
            return 3;
        }
        if (e instanceof NegativeArraySizeException) {
            return 4;
        }
        throw e;
    }

    int line(int kind, int first, int every, int last, int sheet, int lane, int i, int n) {
        fault = 0;
        if (!in(sheet, 0, 3)) {
            return -1;
        }
        if (!in(kind, 0, 2) || !in(first, 0, 1439) || !in(every, 1, 240) || last < first || last > 1439 || !in(lane, 0, 2)) {
            return -2;
        }
        int[] cells = take(sheet, lane, i, 2, n);
        if (cells == null) {
            return -10 - fault;
        }
        if (!in(n, 2, 8)) {
            return -2;
        }
        Line line = kind == 0 ? new Line() : kind == 1 ? new School() : new Night();
        line.stops = new int[n];
        line.legs = new int[n - 1];
        line.queue = new int[n - 1];
        Set<Integer> unlike = new HashSet<>();
        boolean unknown = false;
        for (int k = 0; k < n; k++) {
            line.stops[k] = cells[2 * k];
            unlike.add(cells[2 * k]);
            unknown |= noStop(cells[2 * k]);
            if (k < n - 1) {
                line.legs[k] = cells[2 * k + 1];
                if (!in(line.legs[k], 1, 30)) {
                    return -2;
                }
            }
        }
        if (unknown) {
            return -1;
        }
        if (unlike.size() < n) {
            return -3;
        }
        if (lines.size() == 14) {
            return -4;
        }
        line.first = first;
        line.every = every;
        line.last = last;
        lines.add(line);
        return lines.size() - 1;
    }

    int days(int l, int from, int to) {
        if (noLine(l)) {
            return -1;
        }
        if (!in(from, 0, 59) || !in(to, 0, 59) || to < from) {
            return -2;
        }
        Line line = lines.get(l);
        boolean same = line.from == from && line.to == to;
        line.from = from;
        line.to = to;
        return same ? 0 : 1;
    }

    int ofLine(int l, int what) {
        if (noLine(l)) {
            return -1;
        }
        Line x = lines.get(l);
        int[] all = {x.kind(), x.stops.length, x.first, x.every, x.last, x.from, x.to, x.round(), x.buses().size()};
        if (in(what, 0, 8)) {
            return all[what];
        }
        return in(what, 10, 9 + x.stops.length) ? x.stops[what - 10] : -2;
    }

    int runs(int l, int day) {
        return noLine(l) ? -1 : !in(day, 0, 59) ? -2 : lines.get(l).on(day) ? 1 : 0;
    }

    int minute(int l, int k, int minute) {
        if (noLine(l) || !in(k, 0, lines.get(l).stops.length - 1)) {
            return -1;
        }
        if (!in(minute, 0, 2879)) {
            return -2;
        }
        for (int bus : lines.get(l).buses()) {
            if (lines.get(l).at(bus, k) >= minute) {
                return lines.get(l).at(bus, k);
            }
        }
        return -9;
    }

    private static int dist(int[] a, int[] b) {
        return Math.abs(a[0] - b[0]) + Math.abs(a[1] - b[1]);
    }

    int far(int a, int b) {
        return noStop(a) || noStop(b) ? -1 : dist(stops.get(a), stops.get(b));
    }

    // ---- 2

    int text(int sheet, int lane, int i, int n) {
        fault = 0;
        if (!in(sheet, 0, 3)) {
            return -1;
        }
        if (!in(lane, 0, 2)) {
            return -2;
        }
        int[] cells = take(sheet, lane, i, 1, n);
        if (cells == null) {
            return -10 - fault;
        }
        StringBuilder read = new StringBuilder();
        for (int c : cells) {
            read.append(in(c, 1, 126) ? (char) c : '?');
        }
        Matcher deepest = null;
        for (Pattern p : BEGINNINGS) {
            Matcher m = p.matcher(read);
            if (m.lookingAt()) {
                deepest = m;
            }
        }
        if (deepest == null) {
            return -100;
        }
        int[] text = new int[4];
        for (int g = 1; g <= deepest.groupCount(); g++) {
            text[g - 1] = Integer.parseInt(deepest.group(g));
            boolean bad = g == 1 ? text[0] >= stops.size() : g == 2 ? false : g == 3 ? text[2] > 59 : text[3] > 59 || text[3] < text[2];
            if (bad) {
                return -100 - deepest.start(g);
            }
        }
        if (deepest.groupCount() < 4 || deepest.end() < n) {
            return -100 - deepest.end();
        }
        if (texts.size() == 12) {
            return -4;
        }
        texts.add(text);
        return texts.size() - 1;
    }

    int why(int stop, int day) {
        if (noStop(stop)) {
            return -1;
        }
        if (!in(day, 0, 59)) {
            return -2;
        }
        int found = -9;
        for (int k = 0; k < texts.size(); k++) {
            int[] t = texts.get(k);
            if (t[0] == stop && t[2] <= day && day <= t[3]) {
                found = k;
            }
        }
        return found;
    }

    int owed(int stop, int day) {
        int k = why(stop, day);
        return k >= 0 ? texts.get(k)[1] : k == -9 ? 0 : k;
    }

    int served(int stop, int day) {
        if (noStop(stop)) {
            return -1;
        }
        if (!in(day, 0, 59)) {
            return -2;
        }
        int sum = 0;
        for (Line l : lines) {
            for (int k = 0; l.on(day) && k < l.stops.length - 1; k++) {
                sum += l.stops[k] == stop ? l.buses().size() : 0;
            }
        }
        return sum;
    }

    int breach(int day) {
        if (!in(day, 0, 59)) {
            return -2;
        }
        int set = 0;
        for (int s = 0; s < stops.size(); s++) {
            set += served(s, day) < owed(s, day) ? 1 << s : 0;
        }
        return set;
    }

    // ---- 3

    int trip(int from, int to, int start, int most, int rides) {
        if (noStop(from) || noStop(to)) {
            return -1;
        }
        if (!in(start, 0, 1439) || !in(most, 0, 30) || !in(rides, 0, 3)) {
            return -2;
        }
        if (trips.size() == 6) {
            return -4;
        }
        trips.add(new int[] {from, to, start, most, rides});
        return trips.size() - 1;
    }

    private List<Line> running(int day) {
        List<Line> all = new ArrayList<>();
        for (Line l : lines) {
            if (l.on(day)) {
                all.add(l);
            }
        }
        return all;
    }

    /** The soonest minute by rides, stop and walked, let down until nothing gets sooner. */
    private int[] wayBy(int[] trip, List<Line> net) {
        int[][][] at = new int[trip[4] + 1][stops.size()][trip[3] + 1];
        for (int[][] a : at) {
            for (int[] b : a) {
                Arrays.fill(b, INF);
            }
        }
        at[0][trip[0]][0] = trip[2];
        boolean again = true;
        while (again) {
            again = false;
            for (int r = 0; r <= trip[4]; r++) {
                for (int s = 0; s < stops.size(); s++) {
                    for (int w = 0; w <= trip[3]; w++) {
                        if (at[r][s][w] < INF) {
                            again |= goOn(at, r, s, w, net);
                        }
                    }
                }
            }
        }
        int[] best = null;
        for (int r = 0; r <= trip[4]; r++) {
            for (int w = 0; w <= trip[3]; w++) {
                int there = at[r][trip[1]][w];
                if (there < INF && (best == null || there < best[0])) {
                    best = new int[] {there, r, w};
                }
            }
        }
        return best;
    }

    private boolean goOn(int[][][] at, int r, int s, int w, List<Line> net) {
        boolean sooner = false;
        int now = at[r][s][w];
        for (int o = 0; o < stops.size(); o++) {
            int d = dist(stops.get(s), stops.get(o));
            if (w + d < at[r][o].length && now + d < at[r][o][w + d]) {
                at[r][o][w + d] = now + d;
                sooner = true;
            }
        }
        for (Line l : net) {
            int k = l.find(s);
            if (r + 1 >= at.length || k < 0) {
                continue;
            }
            for (int bus : l.buses()) {
                if (l.at(bus, k) >= now) {
                    for (int j = k + 1; j < l.stops.length; j++) {
                        if (l.at(bus, j) < at[r + 1][l.stops[j]][w]) {
                            at[r + 1][l.stops[j]][w] = l.at(bus, j);
                            sooner = true;
                        }
                    }
                    break;
                }
            }
        }
        return sooner;
    }

    int way(int t, int day, int what) {
        if (!in(t, 0, trips.size() - 1)) {
            return -1;
        }
        if (!in(day, 0, 59) || !in(what, 0, 2)) {
            return -2;
        }
        int[] best = wayBy(trips.get(t), running(day));
        return best == null ? -9 : best[what];
    }

    int lose(int t, int a, int b) {
        if (!in(t, 0, trips.size() - 1)) {
            return -1;
        }
        if (!in(a, 0, 59) || !in(b, 0, 59)) {
            return -2;
        }
        int before = way(t, a, 0);
        int after = way(t, b, 0);
        if (before == -9) {
            return 0;
        }
        return after == -9 ? 9999 : after > before ? after - before : 0;
    }

    int who(int a, int b, int what) {
        if (!in(a, 0, 59) || !in(b, 0, 59) || !in(what, 0, 4)) {
            return -2;
        }
        int[] all = new int[5];
        for (int t = 0; t < trips.size(); t++) {
            all[0] += lose(t, a, b) > 0 ? 1 << t : 0;
            all[1] += lose(t, b, a) > 0 ? 1 << t : 0;
            all[2] += way(t, b, 0) == -9 ? 1 << t : 0;
            all[3] += lose(t, a, b);
            all[4] += lose(t, b, a);
        }
        return all[what];
    }

    int offer(int l) {
        if (noLine(l)) {
            return -1;
        }
        if (offers.contains(l)) {
            return -3;
        }
        if (offers.size() == 4) {
            return -4;
        }
        offers.add(l);
        return offers.size() - 1;
    }

    int best(int day, int minutes, int what) {
        if (!in(day, 0, 59) || !in(minutes, 0, 99999) || !in(what, 0, 3)) {
            return -2;
        }
        int[] best = null;
        nets:
        for (int set = 0; set < 1 << offers.size(); set++) {
            List<Line> net = running(day);
            int spent = 0;
            for (int k = 0; k < offers.size(); k++) {
                Line l = lines.get(offers.get(k));
                if ((set & 1 << k) == 0) {
                    net.remove(l);
                } else if (!net.contains(l)) {
                    continue nets;
                } else {
                    spent += l.round() * l.buses().size();
                }
            }
            if (spent > minutes) {
                continue;
            }
            int going = 0, sum = 0;
            for (int[] t : trips) {
                int[] w = wayBy(t, net);
                going += w == null ? 0 : 1;
                sum += w == null ? 0 : w[0];
            }
            if (best == null || going > best[1] || going == best[1] && sum < best[2]) {
                best = new int[] {set, going, sum, spent};
            }
        }
        return best[what];
    }

    // ---- 4

    int depot(int x, int y, int room) {
        if (!in(x, 0, 40) || !in(y, 0, 40) || !in(room, 0, 9)) {
            return -2;
        }
        if (depots.size() == 4) {
            return -4;
        }
        depots.add(new int[] {x, y, room});
        return depots.size() - 1;
    }

    int empty(int l, int d) {
        if (noLine(l) || !in(d, 0, depots.size() - 1)) {
            return -1;
        }
        int[] s = lines.get(l).stops;
        return dist(depots.get(d), stops.get(s[0])) + dist(stops.get(s[s.length - 1]), depots.get(d));
    }

    private int[] bestRow;
    private int bestCost;

    /** All rows, the first one first; cost by line and place, with so much room in each. */
    private void rows(int[][] cost, int[] room, int[] row, int i, int sum) {
        if (i == cost.length) {
            if (sum < bestCost) {
                bestCost = sum;
                bestRow = row.clone();
            }
            return;
        }
        for (int p = 0; p < room.length; p++) {
            if (room[p] > 0) {
                room[p]--;
                row[i] = p;
                rows(cost, room, row, i + 1, sum + cost[i][p]);
                room[p]++;
            }
        }
    }

    private int share(List<Line> going, int[][] cost, int[] room, int l) {
        bestRow = null;
        bestCost = INF;
        rows(cost, room, new int[cost.length], 0, 0);
        if (bestRow == null) {
            return -9;
        }
        if (l == -1) {
            return bestCost;
        }
        int place = going.indexOf(lines.get(l));
        return place < 0 ? -9 : bestRow[place];
    }

    int fit(int day, int l) {
        if (!in(day, 0, 59)) {
            return -2;
        }
        if (l != -1 && noLine(l)) {
            return -1;
        }
        List<Line> going = running(day);
        if (going.size() > 8) {
            return -9;
        }
        int[][] cost = new int[going.size()][depots.size()];
        int[] room = new int[depots.size()];
        for (int d = 0; d < room.length; d++) {
            room[d] = depots.get(d)[2];
            for (int i = 0; i < cost.length; i++) {
                cost[i][d] = empty(lines.indexOf(going.get(i)), d);
            }
        }
        return share(going, cost, room, l);
    }

    int driver() {
        if (drivers.size() == 6) {
            return -4;
        }
        drivers.add(new HashSet<>());
        return drivers.size() - 1;
    }

    int know(int d, int l, boolean is) {
        if (!in(d, 0, drivers.size() - 1) || noLine(l)) {
            return -1;
        }
        return (is ? drivers.get(d).add(l) : drivers.get(d).remove(l)) ? 1 : 0;
    }

    int roster(int day, int l) {
        if (!in(day, 0, 59)) {
            return -2;
        }
        if (l != -1 && noLine(l)) {
            return -1;
        }
        List<Line> going = running(day);
        if (going.size() > drivers.size()) {
            return -9;
        }
        int[][] cost = new int[going.size()][drivers.size()];
        int[] room = new int[drivers.size()];
        for (int d = 0; d < room.length; d++) {
            room[d] = 1;
            for (int i = 0; i < cost.length; i++) {
                cost[i][d] = drivers.get(d).contains(lines.indexOf(going.get(i))) ? 0 : going.get(i).stops.length;
            }
        }
        return share(going, cost, room, l);
    }

    int board(int stop, boolean is) {
        if (noStop(stop)) {
            return -1;
        }
        if (is && !boards.contains(stop) && boards.size() == 6) {
            return -4;
        }
        return (is ? boards.add(stop) : boards.remove(stop)) ? 1 : 0;
    }

    int night(int day, int stop, int minute, int k) {
        if (noStop(stop) || k < -1 || k >= boards.size()) {
            return -1;
        }
        if (!in(day, 0, 58) || !in(minute, 0, 2879)) {
            return -2;
        }
        bestRow = null;
        bestCost = Integer.MAX_VALUE;
        orders(day, stop, minute, new ArrayList<>());
        return bestRow == null ? -9 : k == -1 ? bestCost : bestRow[k];
    }

    private void orders(int day, int from, int minute, List<Integer> row) {
        if (row.size() == boards.size()) {
            if (minute < bestCost) {
                bestCost = minute;
                bestRow = row.stream().mapToInt(Integer::intValue).toArray();
            }
            return;
        }
        for (int b : boards) {
            if (row.contains(b)) {
                continue;
            }
            int begin = minute + dist(stops.get(from), stops.get(b));
            int end = Integer.MAX_VALUE;
            for (Line l : lines) {
                for (int bus : l.buses()) {
                    if (l.find(b) >= 0 && l.on(day)) {
                        begin = Math.max(begin, l.at(bus, l.find(b)));
                    }
                    if (l.find(b) >= 0 && l.on(day + 1)) {
                        end = Math.min(end, 1440 + l.at(bus, l.find(b)));
                    }
                }
            }
            if (begin + 5 <= end) {
                row.add(b);
                orders(day, b, begin + 5, row);
                row.remove(row.size() - 1);
            }
        }
    }

    int waiting(int l, int k, int many) {
        if (noLine(l) || !in(k, 0, lines.get(l).stops.length - 2)) {
            return -1;
        }
        if (!in(many, 0, 999)) {
            return -2;
        }
        int before = lines.get(l).queue[k];
        lines.get(l).queue[k] = many;
        return before;
    }

    int seats(int n) {
        if (!in(n, 1, 99)) {
            return -2;
        }
        int before = seats;
        seats = n;
        return before;
    }

    private int[] queueBehind(Line line, int n) {
        int[] queue = line.queue.clone();
        for (int bus = 0; bus < n; bus++) {
            int free = seats;
            for (int k = 0; k < queue.length; k++) {
                while (free > 0 && queue[k] > 0) {
                    free--;
                    queue[k]--;
                }
            }
        }
        return queue;
    }

    int standing(int l, int k, int n) {
        if (noLine(l) || !in(k, -1, lines.get(l).stops.length - 2)) {
            return -1;
        }
        if (!in(n, 0, 999)) {
            return -2;
        }
        int[] queue = queueBehind(lines.get(l), n);
        return k == -1 ? Arrays.stream(queue).sum() : queue[k];
    }

    int extra(int l) {
        if (noLine(l)) {
            return -1;
        }
        int leave = lines.get(l).buses().size();
        int more = 0;
        while (Arrays.stream(queueBehind(lines.get(l), leave + more)).sum() > 0) {
            more++;
        }
        return more;
    }

    // ---- 5

    int sheet(int k, int lane, int n) {
        fault = 0;
        if (!in(k, 0, 3)) {
            return -1;
        }
        if (!in(lane, 0, 2) || n > 60) {
            return -2;
        }
        try {
            sheets[k] = lane == 0 ? new byte[n] : lane == 1 ? new short[n] : new int[n];
            return 1;
        } catch (RuntimeException e) {
            fault = faultOf(e);
            return -10 - fault;
        }
    }

    int drop(int k) {
        if (!in(k, 0, 3)) {
            return -1;
        }
        int had = sheets[k] == null ? 0 : 1;
        sheets[k] = null;
        return had;
    }

    int put(int k, int i, int v) {
        fault = 0;
        if (!in(k, 0, 3)) {
            return -1;
        }
        try {
            if (sheets[k] instanceof byte[] b) {
                b[i] = (byte) v;
            } else if (sheets[k] instanceof short[] s) {
                s[i] = (short) v;
            } else {
                ((int[]) sheets[k])[i] = v;
            }
            return 1;
        } catch (RuntimeException e) {
            fault = faultOf(e);
            return -10 - fault;
        }
    }

    long cell(int k, int i, int lane) {
        fault = 0;
        if (!in(k, 0, 3) || !in(lane, 0, 2)) {
            return Long.MIN_VALUE;
        }
        try {
            return lane == 0 ? ((byte[]) sheets[k])[i] : lane == 1 ? ((short[]) sheets[k])[i] : ((int[]) sheets[k])[i];
        } catch (RuntimeException e) {
            fault = faultOf(e);
            return Long.MIN_VALUE;
        }
    }

    int copy(int k, int i, int other, int j, int n) {
        fault = 0;
        if (!in(k, 0, 3) || !in(other, 0, 3)) {
            return -1;
        }
        try {
            System.arraycopy(sheets[k], i, sheets[other], j, n);
            return n;
        } catch (RuntimeException e) {
            fault = faultOf(e);
            return -10 - fault;
        }
    }

    int tell(int l) {
        return noLine(l) ? -1 : lines.get(l).told(this);
    }

    int hail(int l) {
        return noLine(l) ? -1 : lines.get(l).hailed(this, l);
    }

    int as(int l, int kind) {
        fault = 0;
        if (noLine(l)) {
            return -1;
        }
        if (!in(kind, 0, 2)) {
            return -2;
        }
        try {
            Line line = lines.get(l);
            Line cast = kind == 0 ? line : kind == 1 ? (School) line : (Night) line;
            return cast == line ? 1 : 0;
        } catch (RuntimeException e) {
            fault = faultOf(e);
            return -10 - fault;
        }
    }

    int trace() {
        return trace;
    }

    int fault() {
        return fault;
    }

    int many(int what) {
        int[] all = {stops.size(), lines.size(), texts.size(), trips.size(), offers.size(), depots.size(), drivers.size(), boards.size()};
        return in(what, 0, 7) ? all[what] : -2;
    }
}
