import java.util.Arrays;

/** A town's bus lines as they are redrawn; the document ../shared/DOC.md says what each call answers. */
public final class RedrawnLines {
    public static final int UNKNOWN = -1, OUTSIDE = -2, STATE = -3, FULL = -4, NONE = -9;
    public static final long LOST = Long.MIN_VALUE;

    private static final int NULL = 1, CAST = 2, INDEX = 3, SIZE = 4;
    private static final int LINE = 0, SCHOOL = 1, NIGHT = 2;
    private static final int ALL = -1;
    private static final int WHOLE_SET = ~0;

    private static final int DAYS = 60;
    private static final int DAY_MINUTES = 1440;
    private static final int NIGHT_MINUTES = 2880;
    private static final int LARGEST_PLACE = 40;
    private static final int MOST_STOPS = 16;
    private static final int MOST_LINES = 14;
    private static final int LONGEST_LINE = 8;
    private static final int LONGEST_LEG = 30;
    private static final int MOST_TEXTS = 12;
    private static final int MOST_TRIPS = 6;
    private static final int LONGEST_WALK = 30;
    private static final int MOST_RIDES = 3;
    private static final int MOST_OFFERED = 4;
    private static final int MOST_BUS_MINUTES = 99999;
    private static final int MOST_DEPOTS = 4;
    private static final int LARGEST_ROOM = 9;
    private static final int MOST_DRIVERS = 6;
    private static final int MOST_BOARDS = 6;
    private static final int MOST_SEATS = 99;
    private static final int LARGEST_COUNT = 999;
    private static final int SHEETS = 4;
    private static final int LANES = 3;
    private static final int LONGEST_SHEET = 60;
    private static final int NO_WAY_LEFT = 9999;

    // Above every minute and every sum of costs, and far enough from the largest int to be added to.
    private static final int NEVER = 1 << 30;

    private final Network net = new Network();
    private final Text[] texts = new Text[MOST_TEXTS];
    private int textCount = 0;
    private final Trip[] trips = new Trip[MOST_TRIPS];
    private int tripCount = 0;
    private final WayFinder ways = new WayFinder(net);
    private final Line[] offered = new Line[MOST_OFFERED];
    private int offeredCount = 0;
    private final Depot[] depots = new Depot[MOST_DEPOTS];
    private int depotCount = 0;
    private final int[] known = new int[MOST_DRIVERS];
    private int driverCount = 0;
    private final Sharing sharing = new Sharing();
    private int boards = 0;
    private final NightRound round = new NightRound(net);
    private int seatCount = 40;
    private final Sheet[] sheets = new Sheet[SHEETS];
    private int traced = 0;
    private int latestFault = 0;

    public RedrawnLines() {
        for (int k = 0; k < SHEETS; k++) {
            sheets[k] = new Sheet();
        }
    }

    // ---- 1 lines

    public int stop(int x, int y) {
        if (!isPlace(x, y)) {
            return OUTSIDE;
        }
        if (net.stopCount >= MOST_STOPS) {
            return FULL;
        }
        return net.addStop(x, y);
    }

    public int line(int kind, int first, int every, int last, int sheet, int lane, int i, int n) {
        latestFault = 0;
        if (!isSheet(sheet)) {
            return UNKNOWN;
        }
        if (!isKind(kind) || !isTimetable(first, every, last) || !isLane(lane)) {
            return OUTSIDE;
        }
        int wrong = sheets[sheet].rowFault(lane, i, n, 2);
        if (wrong != 0) {
            return fail(wrong);
        }
        if (n < 2 || n > LONGEST_LINE) {
            return OUTSIDE;
        }
        int[] rows = sheets[sheet].cellsFrom(i, 2 * n);
        int refusal = net.refusalOf(rows);
        if (refusal != 0) {
            return refusal;
        }
        if (net.lineCount >= MOST_LINES) {
            return FULL;
        }
        return net.addLine(new Line(net.lineCount, kind, first, every, last, rows));
    }

    public int days(int l, int from, int to) {
        Line line = net.lineAt(l);
        if (line == null) {
            return UNKNOWN;
        }
        if (!isDay(from) || !isDay(to) || to < from) {
            return OUTSIDE;
        }
        if (line.from == from && line.to == to) {
            return 0;
        }
        line.from = from;
        line.to = to;
        return 1;
    }

    public int ofLine(int l, int what) {
        Line line = net.lineAt(l);
        if (line == null) {
            return UNKNOWN;
        }
        switch (what) {
            case 0: return line.kind;
            case 1: return line.size;
            case 2: return line.first;
            case 3: return line.every;
            case 4: return line.last;
            case 5: return line.from;
            case 6: return line.to;
            case 7: return line.roundMinutes();
            case 8: return line.buses();
            default: return what >= 10 && line.hasPlace(what - 10) ? line.stops[what - 10] : OUTSIDE;
        }
    }

    public int runs(int l, int day) {
        Line line = net.lineAt(l);
        if (line == null) {
            return UNKNOWN;
        }
        if (!isDay(day)) {
            return OUTSIDE;
        }
        return line.goesOn(day) ? 1 : 0;
    }

    public int minute(int l, int k, int minute) {
        Line line = net.lineAt(l);
        if (line == null || !line.hasPlace(k)) {
            return UNKNOWN;
        }
        if (minute < 0 || minute >= NIGHT_MINUTES) {
            return OUTSIDE;
        }
        int start = line.startOfBus(k, minute);
        return start == NEVER ? NONE : start + line.after[k];
    }

    public int far(int a, int b) {
        if (!net.hasStop(a) || !net.hasStop(b)) {
            return UNKNOWN;
        }
        return net.walk(a, b);
    }

    // ---- 2 texts

    public int text(int sheet, int lane, int i, int n) {
        latestFault = 0;
        if (!isSheet(sheet)) {
            return UNKNOWN;
        }
        if (!isLane(lane)) {
            return OUTSIDE;
        }
        int wrong = sheets[sheet].rowFault(lane, i, n, 1);
        if (wrong != 0) {
            return fail(wrong);
        }
        Text read = new Text();
        int place = read.firstFault(sheets[sheet].cellsFrom(i, n), net.stopCount);
        if (place >= 0) {
            return -100 - place;
        }
        if (textCount >= MOST_TEXTS) {
            return FULL;
        }
        texts[textCount] = read;
        textCount++;
        return textCount - 1;
    }

    public int owed(int stop, int day) {
        if (!net.hasStop(stop)) {
            return UNKNOWN;
        }
        return isDay(day) ? owedTo(stop, day) : OUTSIDE;
    }

    public int why(int stop, int day) {
        if (!net.hasStop(stop)) {
            return UNKNOWN;
        }
        return isDay(day) ? textFor(stop, day) : OUTSIDE;
    }

    public int served(int stop, int day) {
        if (!net.hasStop(stop)) {
            return UNKNOWN;
        }
        return isDay(day) ? net.busesLeaving(stop, day) : OUTSIDE;
    }

    public int breach(int day) {
        if (!isDay(day)) {
            return OUTSIDE;
        }
        int set = 0;
        for (int s = 0; s < net.stopCount; s++) {
            if (net.busesLeaving(s, day) < owedTo(s, day)) {
                set |= 1 << s;
            }
        }
        return set;
    }

    // ---- 3 trips

    public int trip(int from, int to, int start, int most, int rides) {
        if (!net.hasStop(from) || !net.hasStop(to)) {
            return UNKNOWN;
        }
        if (!isWithin(start, 0, DAY_MINUTES - 1) || !isWithin(most, 0, LONGEST_WALK) || !isWithin(rides, 0, MOST_RIDES)) {
            return OUTSIDE;
        }
        if (tripCount >= MOST_TRIPS) {
            return FULL;
        }
        trips[tripCount] = new Trip(from, to, start, most, rides);
        tripCount++;
        return tripCount - 1;
    }

    public int way(int t, int day, int what) {
        if (!isTrip(t)) {
            return UNKNOWN;
        }
        if (!isDay(day) || !isWithin(what, 0, 2)) {
            return OUTSIDE;
        }
        int there = arrival(t, net.running(day));
        if (there == NEVER) {
            return NONE;
        }
        switch (what) {
            case 0: return there;
            case 1: return ways.ridden;
            default: return ways.walked;
        }
    }

    public int lose(int t, int a, int b) {
        if (!isTrip(t)) {
            return UNKNOWN;
        }
        if (!isDay(a) || !isDay(b)) {
            return OUTSIDE;
        }
        return worseBy(arrival(t, net.running(a)), arrival(t, net.running(b)));
    }

    public int who(int a, int b, int what) {
        if (!isDay(a) || !isDay(b) || !isWithin(what, 0, 4)) {
            return OUTSIDE;
        }
        int setBefore = net.running(a);
        int setAfter = net.running(b);
        int answer = 0;
        for (int t = 0; t < tripCount; t++) {
            int before = arrival(t, setBefore);
            int after = arrival(t, setAfter);
            int worse = worseBy(before, after);
            int better = worseBy(after, before);
            switch (what) {
                case 0: answer |= bitIf(worse > 0, t); break;
                case 1: answer |= bitIf(better > 0, t); break;
                case 2: answer |= bitIf(after == NEVER, t); break;
                case 3: answer += worse; break;
                default: answer += better; break;
            }
        }
        return answer;
    }

    public int offer(int l) {
        Line line = net.lineAt(l);
        if (line == null) {
            return UNKNOWN;
        }
        if (has(offeredLines(WHOLE_SET), l)) {
            return STATE;
        }
        if (offeredCount >= MOST_OFFERED) {
            return FULL;
        }
        offered[offeredCount] = line;
        offeredCount++;
        return offeredCount - 1;
    }

    public int best(int day, int minutes, int what) {
        if (!isDay(day) || !isWithin(minutes, 0, MOST_BUS_MINUTES) || !isWithin(what, 0, 3)) {
            return OUTSIDE;
        }
        int running = net.running(day);
        int always = running & ~offeredLines(WHOLE_SET);
        Tally top = tallyOf(0, always);
        for (int set = 1; set < 1 << offeredCount; set++) {
            int lineSet = offeredLines(set);
            if ((lineSet & ~running) == 0 && net.busMinutes(lineSet) <= minutes) {
                Tally next = tallyOf(set, always | lineSet);
                if (next.beats(top)) {
                    top = next;
                }
            }
        }
        switch (what) {
            case 0: return top.set;
            case 1: return top.going;
            case 2: return top.sum;
            default: return net.busMinutes(offeredLines(top.set));
        }
    }

    // ---- 4 depots, drivers, nights, queues

    public int depot(int x, int y, int room) {
        if (!isPlace(x, y) || !isWithin(room, 0, LARGEST_ROOM)) {
            return OUTSIDE;
        }
        if (depotCount >= MOST_DEPOTS) {
            return FULL;
        }
        depots[depotCount] = new Depot(x, y, room);
        depotCount++;
        return depotCount - 1;
    }

    public int empty(int l, int depot) {
        Line line = net.lineAt(l);
        if (line == null || depot < 0 || depot >= depotCount) {
            return UNKNOWN;
        }
        return emptyMinutes(line, depots[depot]);
    }

    public int fit(int day, int l) {
        if (!isDay(day)) {
            return OUTSIDE;
        }
        if (l != ALL && net.lineAt(l) == null) {
            return UNKNOWN;
        }
        sharing.begin(net.running(day));
        for (int d = 0; d < depotCount; d++) {
            sharing.addPlace(depots[d].room);
            for (int i = 0; i < sharing.count; i++) {
                sharing.setCost(i, d, emptyMinutes(net.lines[sharing.lines[i]], depots[d]));
            }
        }
        return sharing.answer(l);
    }

    public int driver() {
        if (driverCount >= MOST_DRIVERS) {
            return FULL;
        }
        driverCount++;
        return driverCount - 1;
    }

    public int know(int d, int l, boolean is) {
        if (d < 0 || d >= driverCount || net.lineAt(l) == null) {
            return UNKNOWN;
        }
        if (has(known[d], l) == is) {
            return 0;
        }
        known[d] ^= 1 << l;
        return 1;
    }

    public int roster(int day, int l) {
        if (!isDay(day)) {
            return OUTSIDE;
        }
        if (l != ALL && net.lineAt(l) == null) {
            return UNKNOWN;
        }
        sharing.begin(net.running(day));
        for (int d = 0; d < driverCount; d++) {
            sharing.addPlace(1);
            for (int i = 0; i < sharing.count; i++) {
                int goer = sharing.lines[i];
                sharing.setCost(i, d, has(known[d], goer) ? 0 : net.lines[goer].size);
            }
        }
        return sharing.answer(l);
    }

    public int board(int stop, boolean is) {
        if (!net.hasStop(stop)) {
            return UNKNOWN;
        }
        if (has(boards, stop) == is) {
            return 0;
        }
        if (is && Integer.bitCount(boards) >= MOST_BOARDS) {
            return FULL;
        }
        boards ^= 1 << stop;
        return 1;
    }

    public int night(int day, int stop, int minute, int k) {
        if (!net.hasStop(stop) || !isWithin(k, ALL, Integer.bitCount(boards) - 1)) {
            return UNKNOWN;
        }
        if (!isWithin(day, 0, DAYS - 2) || !isWithin(minute, 0, NIGHT_MINUTES - 1)) {
            return OUTSIDE;
        }
        round.plan(boards, day, stop, minute);
        if (round.allDone == NEVER) {
            return NONE;
        }
        return k == ALL ? round.allDone : round.order[k];
    }

    public int waiting(int l, int k, int many) {
        Line line = net.lineAt(l);
        if (line == null || !line.leavesFrom(k)) {
            return UNKNOWN;
        }
        if (!isWithin(many, 0, LARGEST_COUNT)) {
            return OUTSIDE;
        }
        int before = line.queue[k];
        line.queue[k] = many;
        return before;
    }

    public int seats(int n) {
        if (!isWithin(n, 1, MOST_SEATS)) {
            return OUTSIDE;
        }
        int before = seatCount;
        seatCount = n;
        return before;
    }

    public int standing(int l, int k, int n) {
        Line line = net.lineAt(l);
        if (line == null || k != ALL && !line.leavesFrom(k)) {
            return UNKNOWN;
        }
        if (!isWithin(n, 0, LARGEST_COUNT)) {
            return OUTSIDE;
        }
        return line.leftBehind(k, n * seatCount);
    }

    public int extra(int l) {
        Line line = net.lineAt(l);
        if (line == null) {
            return UNKNOWN;
        }
        int perBus = Math.max(1, seatCount);
        int needed = (line.leftBehind(ALL, 0) + perBus - 1) / perBus;
        return Math.max(0, needed - line.buses());
    }

    // ---- 5 sheets, parts

    public int sheet(int k, int lane, int n) {
        latestFault = 0;
        if (!isSheet(k)) {
            return UNKNOWN;
        }
        if (!isLane(lane) || n > LONGEST_SHEET) {
            return OUTSIDE;
        }
        if (n < 0) {
            return fail(SIZE);
        }
        sheets[k].renew(lane, n);
        return 1;
    }

    public int drop(int k) {
        if (!isSheet(k)) {
            return UNKNOWN;
        }
        if (!sheets[k].filled) {
            return 0;
        }
        sheets[k].filled = false;
        return 1;
    }

    public int put(int k, int i, int v) {
        latestFault = 0;
        if (!isSheet(k)) {
            return UNKNOWN;
        }
        Sheet target = sheets[k];
        if (!target.filled) {
            return fail(NULL);
        }
        if (!target.holds(i, 1)) {
            return fail(INDEX);
        }
        target.cells[i] = target.cut(v);
        return 1;
    }

    public long cell(int k, int i, int lane) {
        latestFault = 0;
        if (!isSheet(k) || !isLane(lane)) {
            return LOST;
        }
        int wrong = sheets[k].rowFault(lane, i, 1, 1);
        if (wrong != 0) {
            latestFault = wrong;
            return LOST;
        }
        return sheets[k].cells[i];
    }

    public int copy(int k, int i, int other, int j, int n) {
        latestFault = 0;
        if (!isSheet(k) || !isSheet(other)) {
            return UNKNOWN;
        }
        Sheet source = sheets[k];
        Sheet target = sheets[other];
        if (!source.filled || !target.filled) {
            return fail(NULL);
        }
        if (source.lane != target.lane) {
            return fail(CAST);
        }
        if (!source.holds(i, n) || !target.holds(j, n)) {
            return fail(INDEX);
        }
        System.arraycopy(source.cells, i, target.cells, j, n);
        return n;
    }

    public int tell(int l) {
        Line line = net.lineAt(l);
        if (line == null) {
            return UNKNOWN;
        }
        switch (line.kind) {
            case NIGHT: return toldByNight(line);
            case SCHOOL: return toldBySchool(line);
            default: return toldByLine(line);
        }
    }

    public int hail(int l) {
        Line line = net.lineAt(l);
        if (line == null) {
            return UNKNOWN;
        }
        if (line.kind == NIGHT) {
            leave(5);
            return 90;
        }
        leave(4);
        return line.number;
    }

    public int as(int l, int kind) {
        latestFault = 0;
        Line line = net.lineAt(l);
        if (line == null) {
            return UNKNOWN;
        }
        if (!isKind(kind)) {
            return OUTSIDE;
        }
        // A NIGHT is a SCHOOL and a SCHOOL is a LINE, so the greater kind is the narrower one.
        return line.kind >= kind ? 1 : fail(CAST);
    }

    public int trace() {
        return traced;
    }

    public int fault() {
        return latestFault;
    }

    public int many(int what) {
        switch (what) {
            case 0: return net.stopCount;
            case 1: return net.lineCount;
            case 2: return textCount;
            case 3: return tripCount;
            case 4: return offeredCount;
            case 5: return depotCount;
            case 6: return driverCount;
            case 7: return Integer.bitCount(boards);
            default: return OUTSIDE;
        }
    }

    // ---- what the calls share

    private static boolean isWithin(int n, int least, int most) {
        return n >= least && n <= most;
    }

    private static boolean isPlace(int x, int y) {
        return isWithin(x, 0, LARGEST_PLACE) && isWithin(y, 0, LARGEST_PLACE);
    }

    private static boolean isDay(int day) {
        return isWithin(day, 0, DAYS - 1);
    }

    private static boolean isKind(int kind) {
        return isWithin(kind, LINE, NIGHT);
    }

    private static boolean isTimetable(int first, int every, int last) {
        return isWithin(first, 0, DAY_MINUTES - 1) && isWithin(every, 1, 240) && isWithin(last, first, DAY_MINUTES - 1);
    }

    private static boolean isSheet(int k) {
        return isWithin(k, 0, SHEETS - 1);
    }

    private static boolean isLane(int lane) {
        return isWithin(lane, 0, LANES - 1);
    }

    private boolean isTrip(int t) {
        return isWithin(t, 0, tripCount - 1);
    }

    private static boolean has(int set, int k) {
        return (set >> k & 1) == 1;
    }

    private static int bitIf(boolean is, int k) {
        return is ? 1 << k : 0;
    }

    private int fail(int wrong) {
        latestFault = wrong;
        return -10 - wrong;
    }

    private int textFor(int stop, int day) {
        for (int k = textCount - 1; k >= 0; k--) {
            if (texts[k].isInForce(stop, day)) {
                return k;
            }
        }
        return NONE;
    }

    private int owedTo(int stop, int day) {
        int k = textFor(stop, day);
        return k == NONE ? 0 : texts[k].least();
    }

    private int arrival(int t, int lineSet) {
        ways.search(trips[t], lineSet);
        return ways.there;
    }

    private static int worseBy(int before, int after) {
        if (before == NEVER) {
            return 0;
        }
        return after == NEVER ? NO_WAY_LEFT : Math.max(0, after - before);
    }

    private int offeredLines(int set) {
        int lineSet = 0;
        for (int k = 0; k < offeredCount; k++) {
            if (has(set, k)) {
                lineSet |= 1 << offered[k].number;
            }
        }
        return lineSet;
    }

    private Tally tallyOf(int set, int lineSet) {
        int going = 0;
        int sum = 0;
        for (int t = 0; t < tripCount; t++) {
            int there = arrival(t, lineSet);
            if (there != NEVER) {
                going++;
                sum += there;
            }
        }
        return new Tally(set, going, sum);
    }

    private int emptyMinutes(Line line, Depot depot) {
        return net.walkFrom(line.stops[0], depot.x, depot.y) + net.walkFrom(line.stops[line.size - 1], depot.x, depot.y);
    }

    private void leave(int number) {
        traced = 31 * traced + number;
    }

    private int toldByLine(Line line) {
        leave(1);
        return line.size;
    }

    private int toldBySchool(Line line) {
        leave(2);
        return toldByLine(line) + line.first;
    }

    private int toldByNight(Line line) {
        leave(3);
        return toldBySchool(line) + toldByLine(line);
    }

    /** A row of stops and the minutes at which its buses are there. */
    private static final class Line {
        final int number;
        final int kind;
        final int first;
        final int every;
        final int last;
        final int size;
        final int[] stops = new int[LONGEST_LINE];
        final int[] after = new int[LONGEST_LINE];
        final int[] queue = new int[LONGEST_LINE];
        int from = 0;
        int to = DAYS - 1;

        Line(int number, int kind, int first, int every, int last, int[] rows) {
            this.number = number;
            this.kind = kind;
            this.first = first;
            // It divides later on.
            this.every = Math.max(1, every);
            this.last = last;
            size = Math.min(LONGEST_LINE, rows.length / 2);
            for (int k = 0; k < size; k++) {
                stops[k] = rows[2 * k];
                if (k > 0) {
                    after[k] = after[k - 1] + legOf(kind, rows[2 * k - 1]);
                }
            }
        }

        private static int legOf(int kind, int minutes) {
            return kind == NIGHT ? Math.max(1, minutes - 1) : minutes;
        }

        boolean hasPlace(int k) {
            return k >= 0 && k < size;
        }

        boolean leavesFrom(int k) {
            return k >= 0 && k < size - 1;
        }

        boolean goesOn(int day) {
            return from <= day && day <= to && (kind != SCHOOL || day % 7 < 5);
        }

        int buses() {
            return (last - first) / every + 1;
        }

        int roundMinutes() {
            return after[size - 1];
        }

        /** When the first bus that is at the k-th stop at or behind a minute left the first one. */
        int startOfBus(int k, int minute) {
            int late = minute - after[k] - first;
            int start = late <= 0 ? first : first + (late + every - 1) / every * every;
            return start > last ? NEVER : start;
        }

        int lastBusAt(int k) {
            return first + (buses() - 1) * every + after[k];
        }

        int placeOf(int stop) {
            for (int k = 0; k < size; k++) {
                if (stops[k] == stop) {
                    return k;
                }
            }
            return NONE;
        }

        /** Each bus fills at the earliest stops, so all their seats together empty the queues from the front. */
        int leftBehind(int k, int seatsInAll) {
            int free = seatsInAll;
            int left = 0;
            for (int j = 0; j < size - 1; j++) {
                int taken = Math.min(free, queue[j]);
                free -= taken;
                if (k == ALL || k == j) {
                    left += queue[j] - taken;
                }
            }
            return left;
        }
    }

    /** The stops and the lines. */
    private static final class Network {
        private final int[] x = new int[MOST_STOPS];
        private final int[] y = new int[MOST_STOPS];
        private final int[] walks = new int[MOST_STOPS * MOST_STOPS];
        int stopCount = 0;
        final Line[] lines = new Line[MOST_LINES];
        int lineCount = 0;

        int addStop(int atX, int atY) {
            int added = stopCount;
            x[added] = atX;
            y[added] = atY;
            stopCount++;
            for (int s = 0; s < stopCount; s++) {
                walks[s * MOST_STOPS + added] = walkFrom(s, atX, atY);
                walks[added * MOST_STOPS + s] = walkFrom(s, atX, atY);
            }
            return added;
        }

        boolean hasStop(int s) {
            return s >= 0 && s < stopCount;
        }

        int addLine(Line line) {
            lines[lineCount] = line;
            lineCount++;
            return lineCount - 1;
        }

        /** The line of that number, or null. */
        Line lineAt(int l) {
            return l >= 0 && l < lineCount ? lines[l] : null;
        }

        int walk(int a, int b) {
            return walks[a * MOST_STOPS + b];
        }

        int walkFrom(int s, int toX, int toY) {
            return Math.abs(x[s] - toX) + Math.abs(y[s] - toY);
        }

        /** Why a line can't have these rows of a stop and minutes, or 0. */
        int refusalOf(int[] rows) {
            for (int at = 1; at < rows.length - 2; at += 2) {
                if (!isWithin(rows[at], 1, LONGEST_LEG)) {
                    return OUTSIDE;
                }
            }
            int seen = 0;
            boolean twice = false;
            for (int at = 0; at < rows.length; at += 2) {
                if (!hasStop(rows[at])) {
                    return UNKNOWN;
                }
                twice |= has(seen, rows[at]);
                seen |= 1 << rows[at];
            }
            return twice ? STATE : 0;
        }

        int running(int day) {
            int set = 0;
            for (int l = 0; l < lineCount; l++) {
                set |= bitIf(lines[l].goesOn(day), l);
            }
            return set;
        }

        int busesLeaving(int stop, int day) {
            int sum = 0;
            for (int l = 0; l < lineCount; l++) {
                Line line = lines[l];
                if (line.goesOn(day) && line.leavesFrom(line.placeOf(stop))) {
                    sum += line.buses();
                }
            }
            return sum;
        }

        int busMinutes(int lineSet) {
            int sum = 0;
            for (int l = 0; l < lineCount; l++) {
                if (has(lineSet, l)) {
                    sum += lines[l].buses() * lines[l].roundMinutes();
                }
            }
            return sum;
        }

        /** The minute of a day's last bus at a stop; 0 where there is none, as nothing is to be waited for. */
        int lastBus(int stop, int day) {
            int latest = 0;
            for (int l = 0; l < lineCount; l++) {
                int k = lines[l].placeOf(stop);
                if (k != NONE && lines[l].goesOn(day)) {
                    latest = Math.max(latest, lines[l].lastBusAt(k));
                }
            }
            return latest;
        }

        /** The minute of a day's first bus at a stop, or NEVER. */
        int firstBus(int stop, int day) {
            int soonest = NEVER;
            for (int l = 0; l < lineCount; l++) {
                int k = lines[l].placeOf(stop);
                if (k != NONE && lines[l].goesOn(day)) {
                    soonest = Math.min(soonest, lines[l].first + lines[l].after[k]);
                }
            }
            return soonest;
        }
    }

    /** So many buses at least for a stop on some days, as it is read from codes. */
    private static final class Text {
        private static final int[] SIGNS = {115, 62, 64, 45};
        private static final int STOP = 0, LEAST = 1, FROM = 2, TO = 3;
        private final int[] numbers = new int[4];

        /** The place of the first fault, or -1. */
        int firstFault(int[] codes, int stopCount) {
            int at = 0;
            for (int part = 0; part < SIGNS.length; part++) {
                if (at >= codes.length || codes[at] != SIGNS[part]) {
                    return at;
                }
                int begin = at + 1;
                at = endOfNumber(codes, begin);
                // Where no digit stands or the codes end, both are one: the place of what is missing.
                if (at == begin) {
                    return begin;
                }
                numbers[part] = valueOf(codes, begin, at);
                if (!isAsTold(part, stopCount)) {
                    return begin;
                }
            }
            return at == codes.length ? -1 : at;
        }

        private static int endOfNumber(int[] codes, int begin) {
            int end = begin;
            while (end < codes.length && end < begin + 3 && codes[end] >= 48 && codes[end] <= 57) {
                end++;
            }
            return end;
        }

        private static int valueOf(int[] codes, int begin, int end) {
            int value = 0;
            for (int at = begin; at < end; at++) {
                value = 10 * value + codes[at] - 48;
            }
            return value;
        }

        private boolean isAsTold(int part, int stopCount) {
            switch (part) {
                case STOP: return numbers[STOP] < stopCount;
                case FROM: return isDay(numbers[FROM]);
                case TO: return isDay(numbers[TO]) && numbers[TO] >= numbers[FROM];
                default: return true;
            }
        }

        boolean isInForce(int stop, int day) {
            return numbers[STOP] == stop && isWithin(day, numbers[FROM], numbers[TO]);
        }

        int least() {
            return numbers[LEAST];
        }
    }

    private static final class Trip {
        final int from;
        final int to;
        final int start;
        final int most;
        final int rides;

        Trip(int from, int to, int start, int most, int rides) {
            this.from = from;
            this.to = to;
            this.start = start;
            this.most = most;
            this.rides = rides;
        }
    }

    /**
     * Finds a trip's best way. Ride by ride it keeps, for each stop and each sum of minutes walked,
     * the soonest minute of being there: who is there sooner may wait, and no bus overtakes its line's.
     */
    private static final class WayFinder {
        private static final int WIDTH = LONGEST_WALK + 1;
        private final Network net;
        private final int[] arrived = new int[MOST_STOPS * WIDTH];
        private final int[] ready = new int[MOST_STOPS * WIDTH];
        private final int[] soonest = new int[MOST_STOPS * WIDTH];
        int there = NEVER;
        int ridden = 0;
        int walked = 0;

        WayFinder(Network net) {
            this.net = net;
        }

        void search(Trip trip, int lineSet) {
            there = NEVER;
            Arrays.fill(soonest, NEVER);
            Arrays.fill(arrived, NEVER);
            arrived[trip.from * WIDTH] = trip.start;
            for (int rides = 0; rides <= trip.rides; rides++) {
                thin(arrived, trip.most);
                walkOn(trip.most);
                thin(ready, trip.most);
                noteArrival(trip, rides);
                if (rides < trip.rides) {
                    rideOn(lineSet, remember(trip.most));
                }
            }
        }

        /** Strikes out what is ahead neither of a way found nor of who is there as soon with no more rides and walks. */
        private void thin(int[] row, int most) {
            for (int s = 0; s < net.stopCount; s++) {
                int low = there;
                for (int at = s * WIDTH; at <= s * WIDTH + most; at++) {
                    low = Math.min(low, soonest[at]);
                    if (row[at] < low) {
                        low = row[at];
                    } else {
                        row[at] = NEVER;
                    }
                }
            }
        }

        /** One walk is enough between two rides: no way round by a third stop is shorter. */
        private void walkOn(int most) {
            System.arraycopy(arrived, 0, ready, 0, arrived.length);
            for (int s = 0; s < net.stopCount; s++) {
                for (int w = 0; w <= most; w++) {
                    if (arrived[s * WIDTH + w] != NEVER) {
                        walkFrom(s, w, most);
                    }
                }
            }
        }

        private void walkFrom(int s, int w, int most) {
            int minute = arrived[s * WIDTH + w];
            for (int o = 0; o < net.stopCount; o++) {
                int walk = net.walk(s, o);
                if (w + walk <= most) {
                    int at = o * WIDTH + w + walk;
                    ready[at] = Math.min(ready[at], minute + walk);
                }
            }
        }

        private void noteArrival(Trip trip, int rides) {
            for (int w = 0; w <= trip.most; w++) {
                int minute = ready[trip.to * WIDTH + w];
                if (minute < there) {
                    there = minute;
                    ridden = rides;
                    walked = w;
                }
            }
        }

        /** Answers the sums of minutes walked that occur, as a set. */
        private int remember(int most) {
            int walks = 0;
            for (int s = 0; s < net.stopCount; s++) {
                for (int w = 0; w <= most; w++) {
                    int at = s * WIDTH + w;
                    if (ready[at] != NEVER) {
                        soonest[at] = ready[at];
                        walks |= 1 << w;
                    }
                }
            }
            return walks;
        }

        private void rideOn(int lineSet, int walks) {
            Arrays.fill(arrived, NEVER);
            for (int l = 0; l < net.lineCount; l++) {
                if (has(lineSet, l)) {
                    for (int w = 0; w < WIDTH; w++) {
                        if (has(walks, w)) {
                            rideAlong(net.lines[l], w);
                        }
                    }
                }
            }
        }

        /** The soonest bus is kept all along: the one ridden, or one got on later that is ahead of it. */
        private void rideAlong(Line line, int w) {
            int bus = NEVER;
            for (int k = 0; k < line.size; k++) {
                int at = line.stops[k] * WIDTH + w;
                if (bus != NEVER) {
                    arrived[at] = Math.min(arrived[at], bus + line.after[k]);
                }
                if (ready[at] != NEVER) {
                    bus = Math.min(bus, line.startOfBus(k, ready[at]));
                }
            }
        }
    }

    /** What a net of offered lines does for the trips. */
    private static final class Tally {
        final int set;
        final int going;
        final int sum;

        Tally(int set, int going, int sum) {
            this.set = set;
            this.going = going;
            this.sum = sum;
        }

        boolean beats(Tally other) {
            return going > other.going || going == other.going && sum < other.sum;
        }
    }

    private static final class Depot {
        final int x;
        final int y;
        final int room;

        Depot(int x, int y, int room) {
            this.x = x;
            this.y = y;
            this.room = room;
        }
    }

    /** Shares lines out to places (depots, drivers) that have room for some, at the least cost together. */
    private static final class Sharing {
        private static final int MOST_SHARED = 8;
        private static final int MOST_PLACES = 6;
        // Four depots with room for 0 to 8 lines each; six drivers with one each need far less.
        private static final int MOST_STATES = 9 * 9 * 9 * 9;
        private static final int OPEN = -1;

        final int[] lines = new int[MOST_SHARED];
        int count = 0;
        private boolean tooMany = false;
        private int placeCount = 0;
        private int states = 1;
        private final int[] room = new int[MOST_PLACES];
        private final int[] step = new int[MOST_PLACES];
        private final int[] used = new int[MOST_PLACES];
        private final int[] cost = new int[MOST_SHARED * MOST_PLACES];
        private final int[] rest = new int[MOST_STATES];
        private final int[] placeOfLine = new int[MOST_LINES];

        void begin(int lineSet) {
            tooMany = Integer.bitCount(lineSet) > MOST_SHARED;
            placeCount = 0;
            states = 1;
            count = 0;
            for (int l = 0; l < MOST_LINES; l++) {
                if (has(lineSet, l) && !tooMany) {
                    lines[count] = l;
                    count++;
                }
            }
        }

        /** A state tells how much of each place is used, as a number with a digit for each. */
        void addPlace(int roomThere) {
            if (placeCount < MOST_PLACES) {
                room[placeCount] = Math.min(roomThere, count);
                used[placeCount] = 0;
                step[placeCount] = states;
                states = Math.min(MOST_STATES, states * (room[placeCount] + 1));
                placeCount++;
            }
        }

        void setCost(int i, int place, int price) {
            cost[i * MOST_PLACES + place] = price;
        }

        /** The cost of all (l is ALL), or the place of a line; NONE. */
        int answer(int l) {
            if (tooMany) {
                return NONE;
            }
            for (int state = 0; state < states; state++) {
                rest[state] = OPEN;
            }
            int all = leastFrom(0, 0);
            if (all == NEVER) {
                return NONE;
            }
            if (l == ALL) {
                return all;
            }
            chooseFirst();
            return placeOfLine[l];
        }

        /** The least cost of the lines from the i-th on; i grows with the depth, to count at most. */
        private int leastFrom(int i, int state) {
            if (i >= count) {
                return 0;
            }
            if (rest[state] == OPEN) {
                int low = NEVER;
                for (int p = 0; p < placeCount; p++) {
                    low = Math.min(low, leastWith(i, state, p));
                }
                rest[state] = low;
            }
            return rest[state];
        }

        private int leastWith(int i, int state, int place) {
            if (used[place] >= room[place]) {
                return NEVER;
            }
            used[place]++;
            int least = cost[i * MOST_PLACES + place] + leastFrom(i + 1, state + step[place]);
            used[place]--;
            return least;
        }

        /** Line by line the first place with which the least cost is still reached. */
        private void chooseFirst() {
            Arrays.fill(placeOfLine, NONE);
            int state = 0;
            for (int i = 0; i < count; i++) {
                int place = firstBest(i, state);
                placeOfLine[lines[i]] = place;
                used[place]++;
                state += step[place];
            }
        }

        private int firstBest(int i, int state) {
            for (int p = 0; p < placeCount - 1; p++) {
                if (leastWith(i, state, p) == leastFrom(i, state)) {
                    return p;
                }
            }
            return placeCount - 1;
        }
    }

    /** Finds the order in which a gang changes the boards the soonest. */
    private static final class NightRound {
        private static final int MINUTES_AT_EACH = 5;
        private final Network net;
        private final int[] stops = new int[MOST_BOARDS];
        private final int[] opens = new int[MOST_BOARDS];
        private final int[] closes = new int[MOST_BOARDS];
        private final int[] row = new int[MOST_BOARDS];
        private int count = 0;
        final int[] order = new int[MOST_BOARDS];
        int allDone = NEVER;

        NightRound(Network net) {
            this.net = net;
        }

        void plan(int boards, int day, int from, int minute) {
            count = 0;
            for (int s = 0; s < net.stopCount && count < MOST_BOARDS; s++) {
                if (has(boards, s)) {
                    stops[count] = s;
                    opens[count] = net.lastBus(s, day);
                    closes[count] = DAY_MINUTES + net.firstBus(s, day + 1);
                    count++;
                }
            }
            allDone = NEVER;
            goOn(0, from, minute, 0);
        }

        /** Tries the orders from the first row of stops on; depth is how many boards are done, to count at most. */
        private void goOn(int depth, int from, int minute, int taken) {
            if (depth >= count) {
                allDone = minute;
                System.arraycopy(row, 0, order, 0, count);
                return;
            }
            for (int b = 0; b < count; b++) {
                if (!has(taken, b)) {
                    int begin = Math.max(minute + net.walk(from, stops[b]), opens[b]);
                    int done = begin + MINUTES_AT_EACH;
                    // What is not sooner than the order found so far comes behind it.
                    if (done <= closes[b] && done < allDone) {
                        row[depth] = stops[b];
                        goOn(depth + 1, stops[b], done, taken | 1 << b);
                    }
                }
            }
        }
    }

    /** A row of numbers of a lane, or nothing. */
    private static final class Sheet {
        boolean filled = false;
        int lane = 0;
        private int length = 0;
        final int[] cells = new int[LONGEST_SHEET];

        void renew(int newLane, int n) {
            filled = true;
            lane = newLane;
            length = n;
            Arrays.fill(cells, 0);
        }

        boolean holds(int i, long n) {
            return i >= 0 && n >= 0 && i + n <= length;
        }

        int cut(int v) {
            switch (lane) {
                case 0: return (byte) v;
                case 1: return (short) v;
                default: return v;
            }
        }

        /** The fault of taking n rows of so many cells from i on as a row of a lane, or 0. */
        int rowFault(int asLane, int i, int n, int width) {
            if (!filled) {
                return NULL;
            }
            if (lane != asLane) {
                return CAST;
            }
            if (n < 0) {
                return SIZE;
            }
            return holds(i, (long) n * width) ? 0 : INDEX;
        }

        int[] cellsFrom(int i, int n) {
            return Arrays.copyOfRange(cells, i, i + n);
        }
    }
}
