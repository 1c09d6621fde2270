/**
 * What brings most for each hour that it lasts: rings, trees, walks and loads of a small country,
 * as exact fractions; with rows of numbers, a tape that tells a country, and one image of it.
 */
public final class RoundsPerHour {
    private static final int BEYOND = 0;
    private static final int FULL = 1;
    private static final int KIND = 2;
    private static final int NONE = 3;
    private static final int STATE = 4;
    private static final int MISSING = 5;
    private static final int SIZE = 6;
    private static final int NOUGHT = 7;
    private static final int OVER = 8;
    private static final int FINDINGS = 9;
    private static final int LOW = -2000000001;
    private static final long LONG_LOW = -4000000000000000001L;
    private static final int NO_FINDING = -1;

    private static final int FEWEST_PLACES = 2;
    private static final int MOST_PLACES = 6;
    private static final int MOST_WEATHER = 5;
    private static final int MOST_WAYS = 14;
    private static final int MOST_THINGS = 12;
    private static final int MOST_GAIN = 999999999;
    private static final int MOST_TIME = 999999;

    private static final int PLAIN = 0;
    private static final int TOLL = 1;
    private static final int FORD = 2;
    private static final int BRIDGE = 3;
    private static final int MIRE = 4;
    private static final int STAIR = 5;
    private static final int KINDS = 6;
    private static final int[] KIND_ABOVE = {-1, PLAIN, PLAIN, TOLL, FORD, PLAIN};

    // A ring takes at most one of the ways that leave each place; 14 ways that leave 6 places
    // leave at most 4 * 4 * 3 * 3 * 3 * 3 such choices.
    private static final int MOST_RINGS = 1296;
    private static final int NO_WAY = -1;
    private static final int ANY_PLACE = -1;
    private static final int NO_RING = -1;

    // Each step of a climb has a greater ratio than the one ahead, so none comes twice: there are fewer sets.
    private static final int MOST_STEPS = 1 << MOST_WAYS;
    // Euclid's steps for two numbers of 64 bits are fewer.
    private static final int MOST_DIVISIONS = 200;

    private static final int TAPE_BYTES = 120;
    private static final int MOST_FED = 4;
    private static final int MOST_TOLD = 999999;
    private static final int SHEETS = 4;
    private static final int SHEET_NUMBERS = 40;

    private final Country now = new Country();
    private final Country kept = new Country();
    private final Country draft = new Country();
    private boolean isKept;
    private final Rings rings = new Rings();
    private final TreeClimb trees = new TreeClimb();
    private final WalkClimb walks = new WalkClimb();
    private final LoadClimb loads = new LoadClimb();
    private final Joins joins = new Joins();
    private final Tape tape = new Tape();
    private final Sheet[] sheets = new Sheet[SHEETS];
    private final int[] found = new int[FINDINGS];

    public RoundsPerHour() {
        for (int s = 0; s < SHEETS; s++) {
            sheets[s] = new Sheet();
        }
    }

    // ---- places, ways, things

    public int places(int v) {
        if (!within(v, FEWEST_PLACES, MOST_PLACES)) {
            return finding(BEYOND);
        }
        for (int w = 0; w < now.ways; w++) {
            if (now.from[w] >= v || now.to[w] >= v) {
                return finding(STATE);
            }
        }
        int was = now.places;
        now.places = v;
        return was;
    }

    public int weather(int v) {
        if (!within(v, 0, MOST_WEATHER)) {
            return finding(BEYOND);
        }
        int was = now.weather;
        now.weather = v;
        return was;
    }

    public int way(int kind, int from, int to, int gain, int time) {
        boolean placed = now.isPlace(from) && now.isPlace(to) && from != to;
        if (!isKind(kind) || !placed || !isGain(gain) || !isTime(time)) {
            return finding(BEYOND);
        }
        if (now.ways >= MOST_WAYS) {
            return finding(FULL);
        }
        return now.newWay(kind, from, to, gain, time);
    }

    public int of(int way, int what) {
        if (!now.isWay(way)) {
            return finding(BEYOND);
        }
        switch (what) {
            case 0: return now.kind[way];
            case 1: return now.from[way];
            case 2: return now.to[way];
            case 3: return now.gain[way];
            case 4: return now.time[way];
            case 5: return now.shut[way];
            case 6: return now.bringsOf(way);
            case 7: return now.lastsOf(way);
            default: return finding(BEYOND);
        }
    }

    public int change(int way, int what, int v) {
        if (!now.isWay(way) || !canBecome(way, what, v)) {
            return finding(BEYOND);
        }
        switch (what) {
            case 0: return put(now.kind, way, v);
            case 1: return put(now.from, way, v);
            case 2: return put(now.to, way, v);
            case 3: return put(now.gain, way, v);
            case 4: return put(now.time, way, v);
            default: return put(now.shut, way, v);
        }
    }

    private boolean canBecome(int way, int what, int v) {
        switch (what) {
            case 0: return isKind(v);
            case 1: return now.isPlace(v) && v != now.to[way];
            case 2: return now.isPlace(v) && v != now.from[way];
            case 3: return isGain(v);
            case 4: return isTime(v);
            case 5: return within(v, 0, 1);
            default: return false;
        }
    }

    public int as(int way, int kind) {
        if (!now.isWay(way) || !isKind(kind)) {
            return finding(BEYOND);
        }
        if (!isUnder(now.kind[way], kind)) {
            return finding(KIND);
        }
        return now.gain[way];
    }

    public int thing(int gain, int time) {
        if (!isGain(gain) || !isTime(time)) {
            return finding(BEYOND);
        }
        if (now.things >= MOST_THINGS) {
            return finding(FULL);
        }
        return now.newThing(gain, time);
    }

    public int alter(int thing, int what, int v) {
        if (!now.isThingOrBase(thing)) {
            return finding(BEYOND);
        }
        if (what == 0 && isGain(v)) {
            return put(now.thingGain, thing + 1, v);
        }
        if (what == 1 && isTime(v)) {
            return put(now.thingTime, thing + 1, v);
        }
        return finding(BEYOND);
    }

    public int its(int thing, int what) {
        if (!now.isThingOrBase(thing) || !within(what, 0, 1)) {
            return finding(BEYOND);
        }
        return what == 0 ? now.thingGain[thing + 1] : now.thingTime[thing + 1];
    }

    // ---- rings

    public long ring(int what) {
        if (!within(what, 0, 1)) {
            return longFinding(BEYOND);
        }
        int best = bestRing();
        if (best == NO_RING) {
            return longFinding(NONE);
        }
        return lowest(rings.above[best], rings.below[best], what);
    }

    public int ringWays() {
        int best = bestRing();
        if (best == NO_RING) {
            return finding(NONE);
        }
        int set = 0;
        for (int r = 0; r < rings.size; r++) {
            if (rings.order(r, best) == 0) {
                set |= rings.sets[r];
            }
        }
        return set;
    }

    public long lift(int from, int to) {
        if (!now.isPlace(from) || !now.isPlace(to)) {
            return longFinding(BEYOND);
        }
        int best = bestRing();
        if (best == NO_RING) {
            return longFinding(NONE);
        }
        long a = lowest(rings.above[best], rings.below[best], 0);
        long b = lowest(rings.above[best], rings.below[best], 1);
        if (!rings.lifts(now, from, to, a, b)) {
            return longFinding(NONE);
        }
        return rings.height[to];
    }

    public long worth(long n) {
        int best = bestRing();
        if (best == NO_RING) {
            return longFinding(NONE);
        }
        long a = lowest(rings.above[best], rings.below[best], 0);
        long b = lowest(rings.above[best], rings.below[best], 1);
        if (!productFits(n, a) || b < 1) {
            return longFinding(OVER);
        }
        long told = n * a / b;
        return told <= LONG_LOW ? longFinding(OVER) : told;
    }

    public int raise(int way) {
        if (!now.isWay(way)) {
            return finding(BEYOND);
        }
        rings.gather(now, way);
        int bit = 1 << way;
        int rival = rings.best(bit);
        long least = MOST_GAIN + 1L;
        for (int r = 0; r < rings.size; r++) {
            if ((rings.sets[r] & bit) != 0) {
                long others = rings.above[r] - now.gain[way];
                long needed = rival == NO_RING ? -MOST_GAIN : rings.missingTo(rival, others, rings.below[r]);
                least = Math.min(least, needed);
            }
        }
        return least > MOST_GAIN ? finding(NONE) : (int) Math.max(least, -MOST_GAIN);
    }

    public int lose() {
        if (bestRing() == NO_RING) {
            return finding(NONE);
        }
        int worst = NO_WAY;
        int left = NO_RING;
        for (int w = 0; w < now.ways; w++) {
            if (now.shut[w] == 0) {
                int best = rings.best(1 << w);
                if (best == NO_RING) {
                    return w;
                }
                if (worst == NO_WAY || rings.order(best, left) < 0) {
                    worst = w;
                    left = best;
                }
            }
        }
        return worst;
    }

    public int kind(int way) {
        if (!now.isWay(way)) {
            return finding(BEYOND);
        }
        if (bestRing() == NO_RING) {
            return finding(NONE);
        }
        draft.become(now);
        rings.forget();
        int best = 0;
        for (int k = 0; k < KINDS; k++) {
            draft.kind[way] = k;
            if (rings.rises(draft)) {
                best = k;
            }
        }
        return best;
    }

    public int season() {
        if (bestRing() == NO_RING) {
            return finding(NONE);
        }
        draft.become(now);
        rings.forget();
        int best = 0;
        for (int v = 0; v <= MOST_WEATHER; v++) {
            draft.weather = v;
            if (rings.rises(draft)) {
                best = v;
            }
        }
        return best;
    }

    private int bestRing() {
        rings.gather(now, NO_WAY);
        return rings.best(0);
    }

    // ---- trees, walks, loads

    public long tree(int what) {
        if (!within(what, 0, 3)) {
            return longFinding(BEYOND);
        }
        return told(trees, trees.climbs(now), what);
    }

    public long walk(int from, int to, int what) {
        boolean rises = now.isPlace(from) && now.isPlace(to) && from < to;
        if (!within(what, 0, 3) || !rises) {
            return longFinding(BEYOND);
        }
        return told(walks, walks.climbs(now, from, to), what);
    }

    public long load(int k, int what) {
        if (!within(what, 0, 3) || !within(k, 1, now.things)) {
            return longFinding(BEYOND);
        }
        return told(loads, loads.climbs(now, k), what);
    }

    private long told(Climb climb, boolean any, int what) {
        if (!any) {
            return longFinding(NONE);
        }
        switch (what) {
            case 2: return climb.best;
            case 3: return climb.steps;
            default: return lowest(climb.above, climb.below, what);
        }
    }

    public long ratio(int sort, int set, int what) {
        if (!within(sort, 0, 2) || !within(what, 0, 1)) {
            return longFinding(BEYOND);
        }
        if (!isChoice(sort, set)) {
            return longFinding(STATE);
        }
        if (sort == 2) {
            return lowest(now.gainTogether(set), now.timeTogether(set), what);
        }
        return lowest(now.bringTogether(set), now.lastTogether(set), what);
    }

    private boolean isChoice(int sort, int set) {
        switch (sort) {
            case 0: return now.isOpenSet(set) && now.isRing(set);
            case 1: return now.isOpenSet(set) && joins.isTree(now, set);
            default: return set > 0 && set < (1 << now.things);
        }
    }

    // ---- fractions

    public int compare(int s, int i, int j) {
        int fault = fractionFault(s, i, j);
        if (fault != NO_FINDING) {
            return finding(fault);
        }
        long[] row = sheets[s].numbers;
        if (!productFits(row[i], row[j + 1]) || !productFits(row[j], row[i + 1])) {
            return finding(OVER);
        }
        int order = Long.compare(row[i] * row[j + 1], row[j] * row[i + 1]);
        // One number below the line that is less than 0 turns the order of the products.
        return (row[i + 1] < 0) == (row[j + 1] < 0) ? order : -order;
    }

    public long reduce(int s, int i) {
        int fault = fractionFault(s, i, i);
        if (fault != NO_FINDING) {
            return longFinding(fault);
        }
        Sheet sheet = sheets[s];
        long shared = sharedBelowZero(sheet.numbers[i], sheet.numbers[i + 1]);
        if (shared == Long.MIN_VALUE || shared == 0) {
            return longFinding(OVER);
        }
        long above = sheet.numbers[i] / -shared;
        long below = sheet.numbers[i + 1] / -shared;
        if (below < 0) {
            if (above == Long.MIN_VALUE || below == Long.MIN_VALUE) {
                return longFinding(OVER);
            }
            above = -above;
            below = -below;
        }
        sheet.put(i, above);
        sheet.put(i + 1, below);
        return -shared;
    }

    public int add(int s, int i, int j) {
        int fault = fractionFault(s, i, j);
        if (fault != NO_FINDING) {
            return finding(fault);
        }
        Sheet sheet = sheets[s];
        long above = sheet.numbers[i];
        long below = sheet.numbers[i + 1];
        long otherAbove = sheet.numbers[j];
        long otherBelow = sheet.numbers[j + 1];
        if (!productFits(above, otherBelow) || !productFits(otherAbove, below) || !productFits(below, otherBelow)) {
            return finding(OVER);
        }
        if (!sumFits(above * otherBelow, otherAbove * below)) {
            return finding(OVER);
        }
        sheet.put(i, above * otherBelow + otherAbove * below);
        sheet.put(i + 1, below * otherBelow);
        return 1;
    }

    private int fractionFault(int s, int i, int j) {
        int fault = sheetFault(s);
        if (fault != NO_FINDING) {
            return fault;
        }
        Sheet sheet = sheets[s];
        if (!sheet.hasFraction(i) || !sheet.hasFraction(j)) {
            return BEYOND;
        }
        if (sheet.numbers[i + 1] == 0 || sheet.numbers[j + 1] == 0) {
            return NOUGHT;
        }
        return NO_FINDING;
    }

    // ---- texts

    public int feed(int bytes, int n) {
        if (!within(n, 1, MOST_FED)) {
            return finding(BEYOND);
        }
        if (tape.length + n > TAPE_BYTES) {
            return finding(FULL);
        }
        for (int left = n - 1; left >= 0; left--) {
            tape.append((bytes >> (8 * left)) & 255);
        }
        return tape.length;
    }

    public int wipe() {
        int had = tape.length;
        tape.length = 0;
        return had;
    }

    public int text() {
        draft.become(now);
        int items = tape.tellTo(draft);
        if (items > 0) {
            now.become(draft);
        }
        tape.length = 0;
        return items;
    }

    // ---- sheets

    public int sheet(int s, int bits, int n) {
        if (!within(s, 0, SHEETS - 1) || (bits != 0 && bits != 16 && bits != 32 && bits != 64)) {
            return finding(BEYOND);
        }
        if (bits != 0 && n < 0) {
            return finding(SIZE);
        }
        if (bits != 0 && n > SHEET_NUMBERS) {
            return finding(BEYOND);
        }
        sheets[s].begin(bits, bits == 0 ? 0 : n);
        return sheets[s].size;
    }

    public int write(int s, int i, long v) {
        int fault = numberFault(s, i);
        if (fault != NO_FINDING) {
            return finding(fault);
        }
        sheets[s].put(i, v);
        return 1;
    }

    public long read(int s, int i) {
        int fault = numberFault(s, i);
        if (fault != NO_FINDING) {
            return longFinding(fault);
        }
        return sheets[s].numbers[i];
    }

    public int copy(int s, int from, int t, int to, int n) {
        if (!within(s, 0, SHEETS - 1) || !within(t, 0, SHEETS - 1)) {
            return finding(BEYOND);
        }
        if (sheets[s].bits == 0 || sheets[t].bits == 0) {
            return finding(MISSING);
        }
        if (sheets[s].bits != sheets[t].bits) {
            return finding(KIND);
        }
        if (!sheets[s].hasRun(from, n) || !sheets[t].hasRun(to, n)) {
            return finding(BEYOND);
        }
        System.arraycopy(sheets[s].numbers, from, sheets[t].numbers, to, n);
        return n;
    }

    public int lays(int s) {
        int fault = sheetFault(s);
        if (fault != NO_FINDING) {
            return finding(fault);
        }
        int came = 0;
        int most = Math.min(sheets[s].size, now.ways);
        for (int w = 0; w < most; w++) {
            long v = sheets[s].numbers[w];
            if (v >= -MOST_GAIN && v <= MOST_GAIN) {
                now.gain[w] = (int) v;
                came++;
            }
        }
        return came;
    }

    private int sheetFault(int s) {
        if (!within(s, 0, SHEETS - 1)) {
            return BEYOND;
        }
        return sheets[s].bits == 0 ? MISSING : NO_FINDING;
    }

    private int numberFault(int s, int i) {
        int fault = sheetFault(s);
        if (fault != NO_FINDING) {
            return fault;
        }
        return within(i, 0, sheets[s].size - 1) ? NO_FINDING : BEYOND;
    }

    // ---- images

    public int image() {
        kept.become(now);
        isKept = true;
        return 1;
    }

    public int undo() {
        if (!isKept) {
            return finding(NONE);
        }
        now.become(kept);
        return now.ways;
    }

    public int tear() {
        int was = isKept ? 1 : 0;
        isKept = false;
        return was;
    }

    public int count(int what) {
        switch (what) {
            case 0: return now.places;
            case 1: return now.ways;
            case 2: return now.things;
            case 3: return now.shutWays();
            case 4: return now.weather;
            case 5: return tape.length;
            default: return finding(BEYOND);
        }
    }

    public int status(int which) {
        if (!within(which, -1, FINDINGS - 1)) {
            return finding(BEYOND);
        }
        if (which >= 0) {
            return found[which];
        }
        int all = 0;
        for (int f = 0; f < FINDINGS; f++) {
            all += found[f];
        }
        return all;
    }

    private int finding(int which) {
        found[which]++;
        return LOW - which;
    }

    private long longFinding(int which) {
        found[which]++;
        return LONG_LOW - which;
    }

    private static int put(int[] row, int i, int v) {
        int was = row[i];
        row[i] = v;
        return was;
    }

    private static boolean within(int v, int least, int most) {
        return v >= least && v <= most;
    }

    private static boolean isKind(int v) {
        return within(v, 0, KINDS - 1);
    }

    private static boolean isGain(int v) {
        return within(v, -MOST_GAIN, MOST_GAIN);
    }

    private static boolean isTime(int v) {
        return within(v, 1, MOST_TIME);
    }

    private static boolean isUnder(int kind, int wanted) {
        int k = kind;
        for (int depth = 0; depth < KINDS && k >= 0; depth++) {
            if (k == wanted) {
                return true;
            }
            k = KIND_ABOVE[k];
        }
        return false;
    }

    private static int brings(int kind, int gain, int weather) {
        switch (kind) {
            case TOLL: return brings(PLAIN, gain, weather) - 7;
            case FORD: return brings(PLAIN, gain, weather) - 5 * weather;
            case BRIDGE: return brings(TOLL, gain, weather) + 3 * weather;
            case MIRE: return brings(FORD, gain, weather) - 11;
            case STAIR: return brings(PLAIN, gain, weather) + (weather % 2 == 0 ? 9 : 0);
            default: return gain;
        }
    }

    private static int lasts(int kind, int time, int weather) {
        switch (kind) {
            case TOLL: return lasts(PLAIN, time, weather) + 1;
            case FORD: return lasts(PLAIN, time, weather) + weather;
            case BRIDGE: return lasts(TOLL, time, weather);
            case MIRE: return 2 * lasts(FORD, time, weather);
            case STAIR: return lasts(PLAIN, time, weather) + (weather > 3 ? 2 : 0);
            default: return time;
        }
    }

    private static boolean productFits(long a, long b) {
        if (b == 0) {
            return true;
        }
        if (b == -1) {
            return a != Long.MIN_VALUE;
        }
        return a * b / b == a;
    }

    private static boolean sumFits(long a, long b) {
        long sum = a + b;
        return ((a ^ sum) & (b ^ sum)) >= 0;
    }

    // The greatest divisor of both, told below 0: there the lowest long has its like, above 0 it has none.
    private static long sharedBelowZero(long a, long b) {
        long x = a > 0 ? -a : a;
        long y = b > 0 ? -b : b;
        for (int i = 0; i < MOST_DIVISIONS && y != 0; i++) {
            long rest = x % y;
            x = y;
            y = rest;
        }
        return x;
    }

    // For sums of ways and things, which are far from the ends of 64 bits.
    private static long lowest(long above, long below, int what) {
        long shared = -sharedBelowZero(above, below);
        if (shared < 1) {
            return 0;
        }
        return (what == 0 ? above : below) / shared;
    }

    /** Places, weather, ways and things: all that an image keeps. */
    private static final class Country {
        int places = FEWEST_PLACES;
        int weather;
        int ways;
        final int[] kind = new int[MOST_WAYS];
        final int[] from = new int[MOST_WAYS];
        final int[] to = new int[MOST_WAYS];
        final int[] gain = new int[MOST_WAYS];
        final int[] time = new int[MOST_WAYS];
        final int[] shut = new int[MOST_WAYS];
        int things;
        // BASE stands first, so that it is thing -1: thing t stands in t + 1.
        final int[] thingGain = new int[MOST_THINGS + 1];
        final int[] thingTime = new int[MOST_THINGS + 1];

        Country() {
            thingTime[0] = 1;
        }

        boolean isPlace(int v) {
            return within(v, 0, places - 1);
        }

        boolean isWay(int v) {
            return within(v, 0, ways - 1);
        }

        boolean isThingOrBase(int v) {
            return within(v, -1, things - 1);
        }

        // The caller has seen that there is room for one more.
        int newWay(int itsKind, int itsFrom, int itsTo, int itsGain, int itsTime) {
            int w = ways;
            kind[w] = itsKind;
            from[w] = itsFrom;
            to[w] = itsTo;
            gain[w] = itsGain;
            time[w] = itsTime;
            shut[w] = 0;
            ways++;
            return w;
        }

        // The caller has seen that there is room for one more.
        int newThing(int itsGain, int itsTime) {
            things++;
            thingGain[things] = itsGain;
            thingTime[things] = itsTime;
            return things - 1;
        }

        int bringsOf(int w) {
            return brings(kind[w], gain[w], weather);
        }

        int lastsOf(int w) {
            return lasts(kind[w], time[w], weather);
        }

        int shutWays() {
            int all = 0;
            for (int w = 0; w < ways; w++) {
                all += shut[w];
            }
            return all;
        }

        boolean isOpenSet(int set) {
            if (set <= 0 || set >= (1 << ways)) {
                return false;
            }
            for (int w = 0; w < ways; w++) {
                if ((set & (1 << w)) != 0 && shut[w] != 0) {
                    return false;
                }
            }
            return true;
        }

        // Goes from place to place by the set's ways: a ring comes back having gone them all, each once.
        boolean isRing(int set) {
            int begin = firstFrom(set, ANY_PLACE);
            if (begin == NO_WAY) {
                return false;
            }
            int start = from[begin];
            int at = start;
            for (int gone = 1; gone <= MOST_PLACES; gone++) {
                int w = firstFrom(set, at);
                if (w == NO_WAY) {
                    return false;
                }
                at = to[w];
                if (at == start) {
                    return gone == Integer.bitCount(set);
                }
            }
            return false;
        }

        private int firstFrom(int set, int place) {
            for (int w = 0; w < ways; w++) {
                if ((set & (1 << w)) != 0 && (place == ANY_PLACE || from[w] == place)) {
                    return w;
                }
            }
            return NO_WAY;
        }

        long bringTogether(int set) {
            long sum = 0;
            for (int w = 0; w < ways; w++) {
                if ((set & (1 << w)) != 0) {
                    sum += bringsOf(w);
                }
            }
            return sum;
        }

        long lastTogether(int set) {
            long sum = 0;
            for (int w = 0; w < ways; w++) {
                if ((set & (1 << w)) != 0) {
                    sum += lastsOf(w);
                }
            }
            return sum;
        }

        long gainTogether(int set) {
            return sumWithBase(thingGain, set);
        }

        long timeTogether(int set) {
            return sumWithBase(thingTime, set);
        }

        private long sumWithBase(int[] row, int set) {
            long sum = row[0];
            for (int t = 0; t < things; t++) {
                if ((set & (1 << t)) != 0) {
                    sum += row[t + 1];
                }
            }
            return sum;
        }

        void become(Country other) {
            places = other.places;
            weather = other.weather;
            ways = other.ways;
            things = other.things;
            System.arraycopy(other.kind, 0, kind, 0, MOST_WAYS);
            System.arraycopy(other.from, 0, from, 0, MOST_WAYS);
            System.arraycopy(other.to, 0, to, 0, MOST_WAYS);
            System.arraycopy(other.gain, 0, gain, 0, MOST_WAYS);
            System.arraycopy(other.time, 0, time, 0, MOST_WAYS);
            System.arraycopy(other.shut, 0, shut, 0, MOST_WAYS);
            System.arraycopy(other.thingGain, 0, thingGain, 0, MOST_THINGS + 1);
            System.arraycopy(other.thingTime, 0, thingTime, 0, MOST_THINGS + 1);
        }
    }

    /** All rings of a country, with their sums. */
    private static final class Rings {
        int size;
        final int[] sets = new int[MOST_RINGS];
        final long[] above = new long[MOST_RINGS];
        final long[] below = new long[MOST_RINGS];
        final long[] height = new long[MOST_PLACES];
        private final boolean[] reached = new boolean[MOST_PLACES];
        private final int[] leaving = new int[MOST_PLACES];
        // The ways that leave place p stand from p * MOST_WAYS on.
        private final int[] wayOut = new int[MOST_PLACES * MOST_WAYS];
        private final int[] to = new int[MOST_WAYS];
        private final long[] brings = new long[MOST_WAYS];
        private final long[] lasts = new long[MOST_WAYS];
        private long peakAbove;
        private long peakBelow;

        // The way opened counts as one that isn't shut.
        void gather(Country land, int opened) {
            size = 0;
            for (int p = 0; p < MOST_PLACES; p++) {
                leaving[p] = 0;
            }
            for (int w = 0; w < land.ways; w++) {
                to[w] = land.to[w];
                brings[w] = land.bringsOf(w);
                lasts[w] = land.lastsOf(w);
                if (land.shut[w] == 0 || w == opened) {
                    int p = land.from[w];
                    wayOut[p * MOST_WAYS + leaving[p]] = w;
                    leaving[p]++;
                }
            }
            for (int p = 0; p < land.places; p++) {
                goOn(p, p, 1 << p, 0, 0, 0);
            }
        }

        // Each ring is found once, from its least place: only greater ones are gone to.
        // It goes no deeper than there are places, as none is passed twice.
        private void goOn(int start, int at, int passed, int set, long sumAbove, long sumBelow) {
            for (int i = 0; i < leaving[at]; i++) {
                int w = wayOut[at * MOST_WAYS + i];
                int next = to[w];
                int with = set | (1 << w);
                if (next == start) {
                    keep(with, sumAbove + brings[w], sumBelow + lasts[w]);
                } else if (next > start && (passed & (1 << next)) == 0) {
                    goOn(start, next, passed | (1 << next), with, sumAbove + brings[w], sumBelow + lasts[w]);
                }
            }
        }

        private void keep(int set, long sumAbove, long sumBelow) {
            if (size < MOST_RINGS) {
                sets[size] = set;
                above[size] = sumAbove;
                below[size] = sumBelow;
                size++;
            }
        }

        int order(int r, int q) {
            return Long.compare(above[r] * below[q], above[q] * below[r]);
        }

        // A ring of the greatest ratio among those that have none of these ways.
        int best(int without) {
            int best = NO_RING;
            for (int r = 0; r < size; r++) {
                if ((sets[r] & without) == 0 && (best == NO_RING || order(r, best) > 0)) {
                    best = r;
                }
            }
            return best;
        }

        void forget() {
            peakBelow = 0;
        }

        // Whether its best ring is better than those of all countries since forget().
        boolean rises(Country land) {
            gather(land, NO_WAY);
            int best = best(0);
            if (best == NO_RING) {
                return false;
            }
            if (peakBelow != 0 && above[best] * peakBelow <= peakAbove * below[best]) {
                return false;
            }
            peakAbove = above[best];
            peakBelow = below[best];
            return true;
        }

        // The least number that, with others above the line, makes at least the rival's ratio over that sum below.
        long missingTo(int rival, long others, long sumBelow) {
            long q = below[rival];
            if (q < 1) {
                return 0;
            }
            return -Math.floorDiv(others * q - above[rival] * sumBelow, q);
        }

        // No ring brings more than a by b, so that none makes a walk higher: as many rounds as places do.
        boolean lifts(Country land, int start, int end, long a, long b) {
            for (int p = 0; p < MOST_PLACES; p++) {
                reached[p] = p == start;
                height[p] = 0;
            }
            for (int round = 1; round < land.places; round++) {
                for (int w = 0; w < land.ways; w++) {
                    if (land.shut[w] == 0) {
                        step(land.from[w], land.to[w], b * brings[w] - a * lasts[w]);
                    }
                }
            }
            return reached[end];
        }

        private void step(int p, int next, long up) {
            if (reached[p] && (!reached[next] || height[p] + up > height[next])) {
                reached[next] = true;
                height[next] = height[p] + up;
            }
        }
    }

    /** Which places are joined so far. */
    private static final class Joins {
        private final int[] label = new int[MOST_PLACES];

        void part() {
            for (int p = 0; p < MOST_PLACES; p++) {
                label[p] = p;
            }
        }

        boolean apart(int p, int q) {
            return label[p] != label[q];
        }

        void join(int p, int q) {
            int old = label[p];
            int given = label[q];
            for (int i = 0; i < MOST_PLACES; i++) {
                if (label[i] == old) {
                    label[i] = given;
                }
            }
        }

        boolean isTree(Country land, int set) {
            if (Integer.bitCount(set) != land.places - 1) {
                return false;
            }
            part();
            for (int w = 0; w < land.ways; w++) {
                if ((set & (1 << w)) != 0) {
                    if (!apart(land.from[w], land.to[w])) {
                        return false;
                    }
                    join(land.from[w], land.to[w]);
                }
            }
            return true;
        }
    }

    /** The climb to the best of one sort of choices. */
    private abstract static class Climb {
        int best;
        int steps;
        long above;
        long below;
        int size;
        long baseAbove;
        long baseBelow;
        final long[] gains = new long[MOST_WAYS];
        final long[] times = new long[MOST_WAYS];
        final long[] weight = new long[MOST_WAYS];

        // The least of the choices whose weights together are greatest; 0: there is no choice.
        abstract int pick();

        final void takeWays(Country land) {
            size = land.ways;
            for (int w = 0; w < size; w++) {
                gains[w] = land.bringsOf(w);
                times[w] = land.lastsOf(w);
            }
        }

        // Whether there is any choice; then best is the least best one, above by below its ratio.
        final boolean runs() {
            // All weights being 0, the one picked is the least choice of all.
            weigh(0, 0);
            int at = pick();
            if (at == 0) {
                return false;
            }
            for (int gone = 1; gone <= MOST_STEPS; gone++) {
                steps = gone;
                above = baseAbove + together(gains, at);
                below = baseBelow + together(times, at);
                weigh(above, below);
                best = pick();
                long nextAbove = baseAbove + together(gains, best);
                long nextBelow = baseBelow + together(times, best);
                if (nextAbove * below <= above * nextBelow) {
                    // What weighs most against the greatest ratio are the best ones: best is the least of them.
                    return true;
                }
                at = best;
            }
            return true;
        }

        private void weigh(long a, long b) {
            for (int i = 0; i < size; i++) {
                weight[i] = b * gains[i] - a * times[i];
            }
        }

        private long together(long[] row, int set) {
            long sum = 0;
            for (int i = 0; i < size; i++) {
                if ((set & (1 << i)) != 0) {
                    sum += row[i];
                }
            }
            return sum;
        }
    }

    private static final class TreeClimb extends Climb {
        private final Joins joins = new Joins();
        private Country land;

        boolean climbs(Country through) {
            land = through;
            takeWays(through);
            return runs();
        }

        // Taking the heaviest way that joins what is apart, the first of several, makes the least of the heaviest trees.
        int pick() {
            int set = 0;
            joins.part();
            for (int joined = 1; joined < land.places; joined++) {
                int w = heaviestJoining();
                if (w == NO_WAY) {
                    return 0;
                }
                joins.join(land.from[w], land.to[w]);
                set |= 1 << w;
            }
            return set;
        }

        private int heaviestJoining() {
            int best = NO_WAY;
            for (int w = 0; w < size; w++) {
                boolean can = land.shut[w] == 0 && joins.apart(land.from[w], land.to[w]);
                if (can && (best == NO_WAY || weight[w] > weight[best])) {
                    best = w;
                }
            }
            return best;
        }
    }

    private static final class WalkClimb extends Climb {
        private final long[] height = new long[MOST_PLACES];
        private final int[] sets = new int[MOST_PLACES];
        private Country land;
        private int start;
        private int end;

        boolean climbs(Country through, int from, int to) {
            land = through;
            start = from;
            end = to;
            takeWays(through);
            return runs();
        }

        // From place to place in their order: when one is left, all that leads to it has been seen.
        int pick() {
            for (int p = 0; p < MOST_PLACES; p++) {
                height[p] = 0;
                sets[p] = 0;
            }
            for (int p = start; p < end; p++) {
                if (p == start || sets[p] != 0) {
                    leave(p);
                }
            }
            return sets[end];
        }

        private void leave(int p) {
            for (int w = 0; w < size; w++) {
                int next = land.to[w];
                if (land.shut[w] == 0 && land.from[w] == p && next > p) {
                    long high = height[p] + weight[w];
                    int set = sets[p] | (1 << w);
                    boolean lesser = high == height[next] && set < sets[next];
                    if (sets[next] == 0 || high > height[next] || lesser) {
                        height[next] = high;
                        sets[next] = set;
                    }
                }
            }
        }
    }

    private static final class LoadClimb extends Climb {
        private int most;

        boolean climbs(Country land, int k) {
            most = k;
            size = land.things;
            baseAbove = land.thingGain[0];
            baseBelow = land.thingTime[0];
            for (int t = 0; t < size; t++) {
                gains[t] = land.thingGain[t + 1];
                times[t] = land.thingTime[t + 1];
            }
            return runs();
        }

        int pick() {
            int set = 0;
            for (int taken = 0; taken < most; taken++) {
                int heaviest = -1;
                for (int t = 0; t < size; t++) {
                    if ((set & (1 << t)) == 0 && (heaviest < 0 || weight[t] > weight[heaviest])) {
                        heaviest = t;
                    }
                }
                if (heaviest < 0) {
                    return 0;
                }
                set |= 1 << heaviest;
            }
            return set;
        }
    }

    /** The tape, and the reading of a text from it, token by token. */
    private static final class Tape {
        private static final int END = 0;
        private static final int WORD = 1;
        private static final int NUMBER = 2;
        private static final int SIGN = 3;
        private static final int OTHER = 4;

        int length;
        private final int[] bytes = new int[TAPE_BYTES];
        private Country land;
        // The token that is looked at: its sort, where it begins, where the next may begin, its number.
        private int sort;
        private int first;
        private int behind;
        private int number;
        private int gain;
        private int time;

        void append(int b) {
            if (length < TAPE_BYTES) {
                bytes[length] = b;
                length++;
            }
        }

        // How many items it tells to a country, or -1 less the fault.
        int tellTo(Country country) {
            land = country;
            behind = 0;
            next();
            for (int items = 1; items <= TAPE_BYTES; items++) {
                if (!item()) {
                    return -1 - first;
                }
                if (sort == END) {
                    return items;
                }
                if (sort != SIGN) {
                    return -1 - first;
                }
                next();
            }
            return -1 - first;
        }

        // Whether an item stood there; if not, the token that is looked at can't stand there.
        private boolean item() {
            if (isWord("places")) {
                next();
                return placesItem();
            }
            if (isWord("weather")) {
                next();
                return weatherItem();
            }
            if (isWord("thing")) {
                return thingItem();
            }
            return wayItem(kindTold());
        }

        private boolean placesItem() {
            if (!isNumber(land.places, MOST_PLACES)) {
                return false;
            }
            land.places = number;
            next();
            return true;
        }

        private boolean weatherItem() {
            if (!isNumber(0, MOST_WEATHER)) {
                return false;
            }
            land.weather = number;
            next();
            return true;
        }

        private boolean thingItem() {
            if (land.things >= MOST_THINGS) {
                return false;
            }
            next();
            if (!gainAndTime()) {
                return false;
            }
            land.newThing(gain, time);
            return true;
        }

        private boolean wayItem(int kind) {
            if (kind < 0 || land.ways >= MOST_WAYS) {
                return false;
            }
            next();
            if (!isNumber(0, land.places - 1)) {
                return false;
            }
            int from = number;
            next();
            if (!isNumber(0, land.places - 1) || number == from) {
                return false;
            }
            int to = number;
            next();
            if (!gainAndTime()) {
                return false;
            }
            int w = land.newWay(kind, from, to, gain, time);
            if (isWord("shut")) {
                land.shut[w] = 1;
                next();
            }
            return true;
        }

        private boolean gainAndTime() {
            gain = 0;
            time = 1;
            boolean loss = isWord("loss");
            if (loss || isWord("gain")) {
                next();
                if (!isNumber(0, MOST_TOLD)) {
                    return false;
                }
                gain = loss ? -number : number;
                next();
            }
            if (isWord("time")) {
                next();
                if (!isNumber(1, MOST_TOLD)) {
                    return false;
                }
                time = number;
                next();
            }
            return true;
        }

        private int kindTold() {
            if (isWord("way")) {
                return PLAIN;
            }
            if (isWord("toll")) {
                return TOLL;
            }
            if (isWord("ford")) {
                return FORD;
            }
            if (isWord("bridge")) {
                return BRIDGE;
            }
            if (isWord("mire")) {
                return MIRE;
            }
            return isWord("stair") ? STAIR : -1;
        }

        private boolean isNumber(int least, int most) {
            return sort == NUMBER && within(number, least, most);
        }

        private boolean isWord(String word) {
            if (sort != WORD || behind - first != word.length()) {
                return false;
            }
            for (int i = 0; i < word.length(); i++) {
                if (bytes[first + i] != word.charAt(i)) {
                    return false;
                }
            }
            return true;
        }

        private void next() {
            while (behind < length && bytes[behind] == ' ') {
                behind++;
            }
            first = behind;
            if (first >= length) {
                sort = END;
            } else if (isLetter(bytes[first])) {
                sort = WORD;
                while (behind < length && isLetter(bytes[behind])) {
                    behind++;
                }
            } else if (isDigit(bytes[first])) {
                sort = NUMBER;
                takeDigits();
            } else {
                sort = bytes[first] == ';' ? SIGN : OTHER;
                behind++;
            }
        }

        // Any number above the most that can be told will do for one that is greater.
        private void takeDigits() {
            number = 0;
            while (behind < length && isDigit(bytes[behind])) {
                number = Math.min(number * 10 + bytes[behind] - '0', MOST_TOLD + 1);
                behind++;
            }
        }

        private static boolean isLetter(int b) {
            return b >= 'a' && b <= 'z';
        }

        private static boolean isDigit(int b) {
            return b >= '0' && b <= '9';
        }
    }

    /** A row of numbers of 16, 32 or 64 bits; of 0 bits: it is missing. */
    private static final class Sheet {
        int bits;
        int size;
        final long[] numbers = new long[SHEET_NUMBERS];

        void begin(int itsBits, int n) {
            bits = itsBits;
            size = n;
            for (int i = 0; i < SHEET_NUMBERS; i++) {
                numbers[i] = 0;
            }
        }

        boolean hasFraction(int i) {
            return within(i, 0, size - 2);
        }

        boolean hasRun(int from, int n) {
            return from >= 0 && within(n, 0, size) && from <= size - n;
        }

        void put(int i, long v) {
            if (bits == 16) {
                numbers[i] = (short) v;
            } else if (bits == 32) {
                numbers[i] = (int) v;
            } else {
                numbers[i] = v;
            }
        }
    }
}
