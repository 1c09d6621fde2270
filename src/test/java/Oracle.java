import java.math.BigInteger;
import java.util.ArrayList;
import java.util.Arrays;
import java.util.HashSet;
import java.util.List;
import java.util.Set;
import java.util.function.IntPredicate;

/**
 * The document once more, in the slowest and plainest way: every set is tried, every number is a BigInteger.
 * It shares no code and no method with the class. It answers all calls by name, with their arguments.
 */
final class Oracle {
    static final int BEYOND = 0, FULL = 1, KIND = 2, NONE = 3, STATE = 4, MISSING = 5, SIZE = 6, NOUGHT = 7, OVER = 8;

    /** A finding, thrown. */
    static final class Found extends RuntimeException {
        final int which;
        Found(int which) {
            super(null, null, false, false);
            this.which = which;
        }
    }

    /** A fault of a text, thrown. */
    static final class Fault extends RuntimeException {
        final int place;
        Fault(int place) {
            super(null, null, false, false);
            this.place = place;
        }
    }

    static final class Land {
        int places = 2;
        int weather = 0;
        List<int[]> ways = new ArrayList<>();   // kind, from, to, gain, time, shut
        List<int[]> things = new ArrayList<>(); // gain, time
        int[] base = {0, 1};

        Land twin() {
            Land o = new Land();
            o.places = places;
            o.weather = weather;
            for (int[] w : ways) o.ways.add(w.clone());
            for (int[] t : things) o.things.add(t.clone());
            o.base = base.clone();
            return o;
        }

        long brings(int w) {
            int[] x = ways.get(w);
            long g = x[3];
            switch (x[0]) {
                case 1: g -= 7; break;
                case 2: g -= 5L * weather; break;
                case 3: g = g - 7 + 3L * weather; break;
                case 4: g = g - 5L * weather - 11; break;
                case 5: if (weather == 0 || weather == 2 || weather == 4) g += 9; break;
                default:
            }
            return g;
        }

        long lasts(int w) {
            int[] x = ways.get(w);
            long t = x[4];
            switch (x[0]) {
                case 1: case 3: return t + 1;
                case 2: return t + weather;
                case 4: return t + weather + t + weather;
                case 5: return weather >= 4 ? t + 2 : t;
                default: return t;
            }
        }

        List<Integer> members(int set) {
            List<Integer> all = new ArrayList<>();
            for (int i = 0; i < 31; i++) if ((set >> i & 1) == 1) all.add(i);
            return all;
        }

        boolean open(int set) {
            if (set <= 0 || set >= 1 << ways.size()) return false;
            for (int w : members(set)) if (ways.get(w)[5] == 1) return false;
            return true;
        }

        // As many places left as ways, as many come to, the same ones; and none of its parts is such a set.
        boolean ring(int set) {
            if (!open(set)) return false;
            int froms = 0, tos = 0;
            for (int w : members(set)) {
                int f = 1 << ways.get(w)[1], t = 1 << ways.get(w)[2];
                if ((froms & f) != 0 || (tos & t) != 0) return false;
                froms |= f;
                tos |= t;
            }
            if (froms != tos) return false;
            int seen = Integer.lowestOneBit(froms);
            for (int i = 0; i < 6; i++)
                for (int w : members(set)) if ((seen >> ways.get(w)[1] & 1) == 1) seen |= 1 << ways.get(w)[2];
            return seen == froms;
        }

        boolean tree(int set) {
            if (!open(set) || Integer.bitCount(set) != places - 1) return false;
            int seen = 1;
            for (int i = 0; i < 6; i++)
                for (int w : members(set)) {
                    int both = 1 << ways.get(w)[1] | 1 << ways.get(w)[2];
                    if ((seen & both) != 0) seen |= both;
                }
            return seen == (1 << places) - 1;
        }

        boolean walk(int set, int from, int to) {
            if (!open(set)) return false;
            List<Integer> left = members(set);
            left.sort((p, q) -> ways.get(p)[1] - ways.get(q)[1]);
            int at = from;
            for (int w : left) {
                if (ways.get(w)[1] != at || ways.get(w)[2] <= at) return false;
                at = ways.get(w)[2];
            }
            return at == to;
        }

        BigInteger[] waysRatio(int set) {
            BigInteger a = BigInteger.ZERO, b = BigInteger.ZERO;
            for (int w : members(set)) {
                a = a.add(BigInteger.valueOf(brings(w)));
                b = b.add(BigInteger.valueOf(lasts(w)));
            }
            return new BigInteger[] {a, b};
        }

        BigInteger[] loadRatio(int set) {
            BigInteger a = BigInteger.valueOf(base[0]), b = BigInteger.valueOf(base[1]);
            for (int t : members(set)) {
                a = a.add(BigInteger.valueOf(things.get(t)[0]));
                b = b.add(BigInteger.valueOf(things.get(t)[1]));
            }
            return new BigInteger[] {a, b};
        }

        List<Integer> rings() {
            List<Integer> all = new ArrayList<>();
            for (int set = 1; set < 1 << ways.size(); set++)
                if (Integer.bitCount(set) <= 6 && ring(set)) all.add(set);
            return all;
        }

        BigInteger[] bestRing() {
            return bestOf(rings());
        }

        BigInteger[] bestOf(List<Integer> rings) {
            BigInteger[] best = null;
            for (int set : rings)
                if (best == null || order(waysRatio(set), best) > 0) best = waysRatio(set);
            return best;
        }

        int bestRingWays(List<Integer> rings) {
            BigInteger[] best = bestOf(rings);
            int all = 0;
            for (int set : rings)
                if (order(waysRatio(set), best) == 0) all |= set;
            return all;
        }
    }

    static int order(BigInteger[] p, BigInteger[] q) {
        return p[0].multiply(q[1]).compareTo(q[0].multiply(p[1]));
    }

    static BigInteger[] lowest(BigInteger[] r) {
        BigInteger g = r[0].gcd(r[1]);
        if (r[1].signum() < 0) g = g.negate();
        return new BigInteger[] {r[0].divide(g), r[1].divide(g)};
    }

    Land land = new Land();
    Land image = null;
    List<Integer> tape = new ArrayList<>();
    long[][] sheets = new long[4][];
    int[] bits = new int[4];
    int[] found = new int[9];

    long call(String name, long... a) {
        try {
            return answer(name, a);
        } catch (Found f) {
            found[f.which]++;
            boolean wide = Set.of("ring", "lift", "worth", "tree", "walk", "load", "ratio", "reduce", "read").contains(name);
            return (wide ? -4000000000000000001L : -2000000001L) - f.which;
        }
    }

    private static void want(boolean so, int finding) {
        if (!so) throw new Found(finding);
    }

    private static boolean in(long v, long least, long most) {
        return least <= v && v <= most;
    }

    private static boolean gainOk(long v) {
        return in(v, -999999999, 999999999);
    }

    private static boolean timeOk(long v) {
        return in(v, 1, 999999);
    }

    private boolean placeOk(long v) {
        return in(v, 0, land.places - 1);
    }

    private boolean wayOk(long v) {
        return in(v, 0, land.ways.size() - 1);
    }

    private long answer(String name, long[] a) {
        switch (name) {
            case "places": {
                want(in(a[0], 2, 6), BEYOND);
                for (int[] w : land.ways) want(Math.max(w[1], w[2]) < a[0], STATE);
                int was = land.places;
                land.places = (int) a[0];
                return was;
            }
            case "weather": {
                want(in(a[0], 0, 5), BEYOND);
                int was = land.weather;
                land.weather = (int) a[0];
                return was;
            }
            case "way":
                want(in(a[0], 0, 5) && placeOk(a[1]) && placeOk(a[2]) && a[1] != a[2] && gainOk(a[3]) && timeOk(a[4]), BEYOND);
                want(land.ways.size() < 14, FULL);
                land.ways.add(new int[] {(int) a[0], (int) a[1], (int) a[2], (int) a[3], (int) a[4], 0});
                return land.ways.size() - 1;
            case "of":
                want(wayOk(a[0]) && in(a[1], 0, 7), BEYOND);
                if (a[1] == 6) return land.brings((int) a[0]);
                if (a[1] == 7) return land.lasts((int) a[0]);
                return land.ways.get((int) a[0])[(int) a[1]];
            case "change": {
                want(wayOk(a[0]) && in(a[1], 0, 5), BEYOND);
                int[] w = land.ways.get((int) a[0]);
                int what = (int) a[1];
                if (what == 0) want(in(a[2], 0, 5), BEYOND);
                if (what == 1) want(placeOk(a[2]) && a[2] != w[2], BEYOND);
                if (what == 2) want(placeOk(a[2]) && a[2] != w[1], BEYOND);
                if (what == 3) want(gainOk(a[2]), BEYOND);
                if (what == 4) want(timeOk(a[2]), BEYOND);
                if (what == 5) want(in(a[2], 0, 1), BEYOND);
                int was = w[what];
                w[what] = (int) a[2];
                return was;
            }
            case "as": {
                want(wayOk(a[0]) && in(a[1], 0, 5), BEYOND);
                int k = land.ways.get((int) a[0])[0];
                boolean is = a[1] == 0 || a[1] == k || a[1] == 1 && k == 3 || a[1] == 2 && k == 4;
                want(is, KIND);
                return land.ways.get((int) a[0])[3];
            }
            case "thing":
                want(gainOk(a[0]) && timeOk(a[1]), BEYOND);
                want(land.things.size() < 12, FULL);
                land.things.add(new int[] {(int) a[0], (int) a[1]});
                return land.things.size() - 1;
            case "alter": {
                want(in(a[0], -1, land.things.size() - 1) && in(a[1], 0, 1), BEYOND);
                want(a[1] == 0 ? gainOk(a[2]) : timeOk(a[2]), BEYOND);
                int[] t = a[0] == -1 ? land.base : land.things.get((int) a[0]);
                int was = t[(int) a[1]];
                t[(int) a[1]] = (int) a[2];
                return was;
            }
            case "its":
                want(in(a[0], -1, land.things.size() - 1) && in(a[1], 0, 1), BEYOND);
                return (a[0] == -1 ? land.base : land.things.get((int) a[0]))[(int) a[1]];
            case "tree": case "walk": case "load": case "ratio":
                return choiceAnswer(name, a);
            case "compare": case "reduce": case "add":
                return fractionAnswer(name, a);
            case "feed": case "wipe": case "text":
                return textAnswer(name, a);
            case "sheet": case "write": case "read": case "copy": case "lays":
                return sheetAnswer(name, a);
            case "image": case "undo": case "tear": case "count": case "status":
                return imageAnswer(name, a);
            default:
                return ringAnswer(name, a);
        }
    }

    private long ringAnswer(String name, long[] a) {
        switch (name) {
            case "ring":
                want(in(a[0], 0, 1), BEYOND);
                return told((int) a[0]);
            case "ringWays":
                want(land.bestRing() != null, NONE);
                return land.bestRingWays(land.rings());
            case "lift":
                want(placeOk(a[0]) && placeOk(a[1]), BEYOND);
                return lift((int) a[0], (int) a[1]);
            case "worth": {
                want(land.bestRing() != null, NONE);
                BigInteger product = BigInteger.valueOf(a[0]).multiply(BigInteger.valueOf(told(0)));
                want(product.bitLength() <= 63, OVER);
                BigInteger cut = product.divide(BigInteger.valueOf(told(1)));
                want(cut.compareTo(BigInteger.valueOf(-4000000000000000000L)) >= 0, OVER);
                return cut.longValueExact();
            }
            case "raise":
                want(wayOk(a[0]), BEYOND);
                return leastGain((int) a[0]);
            case "lose": {
                want(land.bestRing() != null, NONE);
                int worst = -1;
                BigInteger[] left = null;
                for (int w = 0; w < land.ways.size(); w++) {
                    if (land.ways.get(w)[5] == 1) continue;
                    Land other = land.twin();
                    other.ways.get(w)[5] = 1;
                    BigInteger[] r = other.bestRing();
                    boolean less = left != null && (r == null || order(r, left) < 0);
                    if (worst < 0 || less) {
                        worst = w;
                        left = r;
                    }
                }
                return worst;
            }
            case "kind": {
                want(wayOk(a[0]), BEYOND);
                want(land.bestRing() != null, NONE);
                List<BigInteger[]> all = new ArrayList<>();
                for (int k = 0; k < 6; k++) {
                    Land other = land.twin();
                    other.ways.get((int) a[0])[0] = k;
                    all.add(other.bestRing());
                }
                return firstGreatest(all);
            }
            case "season": {
                want(land.bestRing() != null, NONE);
                List<BigInteger[]> all = new ArrayList<>();
                for (int v = 0; v < 6; v++) {
                    Land other = land.twin();
                    other.weather = v;
                    all.add(other.bestRing());
                }
                return firstGreatest(all);
            }
            default:
                throw new IllegalStateException(name);
        }
    }

    private static int firstGreatest(List<BigInteger[]> all) {
        int best = 0;
        for (int i = 1; i < all.size(); i++) if (order(all.get(i), all.get(best)) > 0) best = i;
        return best;
    }

    private long told(int what) {
        BigInteger[] best = land.bestRing();
        want(best != null, NONE);
        return lowest(best)[what].longValueExact();
    }

    // Walks of any ways, one after the other, with many more steps than there are places.
    private long lift(int from, int to) {
        BigInteger a = BigInteger.valueOf(told(0)), b = BigInteger.valueOf(told(1));
        BigInteger[] high = new BigInteger[6];
        high[from] = BigInteger.ZERO;
        for (int step = 0; step < 20; step++) {
            BigInteger[] then = high.clone();
            for (int w = 0; w < land.ways.size(); w++) {
                int[] x = land.ways.get(w);
                if (x[5] == 1 || high[x[1]] == null) continue;
                BigInteger v = high[x[1]].add(b.multiply(BigInteger.valueOf(land.brings(w)))).subtract(a.multiply(BigInteger.valueOf(land.lasts(w))));
                if (then[x[2]] == null || v.compareTo(then[x[2]]) > 0) then[x[2]] = v;
            }
            high = then;
        }
        want(high[to] != null, NONE);
        return high[to].longValueExact();
    }

    // By halving: with a greater gain it stays in a best ring.
    private long leastGain(int way) {
        Land other = land.twin();
        other.ways.get(way)[5] = 0;
        List<Integer> rings = other.rings();
        IntPredicate in = g -> {
            other.ways.get(way)[3] = g;
            return (other.bestRingWays(rings) >> way & 1) == 1;
        };
        want(in.test(999999999), NONE);
        int least = -999999999, most = 999999999;
        while (least < most) {
            int mid = (int) Math.floorDiv((long) least + most, 2L);
            if (in.test(mid)) most = mid; else least = mid + 1;
        }
        return least;
    }

    private long choiceAnswer(String name, long[] a) {
        int what = (int) a[a.length - 1];
        boolean load = name.equals("load");
        if (name.equals("ratio")) {
            want(in(a[0], 0, 2) && in(a[2], 0, 1), BEYOND);
            int set = (int) a[1];
            boolean is = a[0] == 0 ? land.ring(set) : a[0] == 1 ? land.tree(set) : set > 0 && set < 1 << land.things.size();
            want(is, STATE);
            return lowest(a[0] == 2 ? land.loadRatio(set) : land.waysRatio(set))[what].longValueExact();
        }
        want(in(a[a.length - 1], 0, 3), BEYOND);
        if (name.equals("walk")) want(placeOk(a[0]) && placeOk(a[1]) && a[0] < a[1], BEYOND);
        if (load) want(in(a[0], 1, land.things.size()), BEYOND);
        List<Integer> all = new ArrayList<>();
        for (int set = 1; set < 1 << (load ? land.things.size() : land.ways.size()); set++) {
            boolean is = load ? Integer.bitCount(set) == a[0]
                    : name.equals("tree") ? land.tree(set) : Integer.bitCount(set) < 6 && land.walk(set, (int) a[0], (int) a[1]);
            if (is) all.add(set);
        }
        want(!all.isEmpty(), NONE);
        return climb(all, load, what);
    }

    private BigInteger[] ratioOf(int set, boolean load) {
        return load ? land.loadRatio(set) : land.waysRatio(set);
    }

    private long climb(List<Integer> all, boolean load, int what) {
        int best = all.get(0);
        for (int set : all) if (order(ratioOf(set, load), ratioOf(best, load)) > 0) best = set;
        if (what == 2) return best;
        if (what < 2) return lowest(ratioOf(best, load))[what].longValueExact();
        int steps = 1, at = all.get(0);
        while (true) {
            BigInteger[] r = ratioOf(at, load);
            int next = -1;
            BigInteger most = null;
            for (int set : all) {
                BigInteger[] q = ratioOf(set, load);
                BigInteger v = q[0].multiply(r[1]).subtract(r[0].multiply(q[1]));
                if (most == null || v.compareTo(most) > 0) {
                    most = v;
                    next = set;
                }
            }
            if (order(ratioOf(next, load), r) <= 0) return steps;
            at = next;
            steps++;
        }
    }

    private static boolean fits(BigInteger... all) {
        return Arrays.stream(all).allMatch(v -> v.bitLength() <= 63);
    }

    private void needSheet(long s) {
        want(in(s, 0, 3), BEYOND);
        want(bits[(int) s] != 0, MISSING);
    }

    private long fractionAnswer(String name, long[] a) {
        needSheet(a[0]);
        int s = (int) a[0];
        long[] row = sheets[s];
        long other = name.equals("reduce") ? a[1] : a[2];
        want(a[1] >= 0 && a[1] + 1 < row.length && other >= 0 && other + 1 < row.length, BEYOND);
        int i = (int) a[1], j = (int) other;
        want(row[i + 1] != 0 && row[j + 1] != 0, NOUGHT);
        BigInteger p = BigInteger.valueOf(row[i]), q = BigInteger.valueOf(row[i + 1]);
        BigInteger u = BigInteger.valueOf(row[j]), v = BigInteger.valueOf(row[j + 1]);
        if (name.equals("compare")) {
            want(fits(p.multiply(v), u.multiply(q)), OVER);
            return p.multiply(v).compareTo(u.multiply(q)) * q.signum() * v.signum();
        }
        if (name.equals("reduce")) {
            BigInteger g = p.gcd(q);
            BigInteger[] low = lowest(new BigInteger[] {p, q});
            want(fits(g, low[0], low[1]), OVER);
            row[i] = cut(low[0], bits[s]);
            row[i + 1] = cut(low[1], bits[s]);
            return g.longValueExact();
        }
        BigInteger above = p.multiply(v).add(u.multiply(q));
        want(fits(p.multiply(v), u.multiply(q), q.multiply(v), above), OVER);
        row[i] = cut(above, bits[s]);
        row[i + 1] = cut(q.multiply(v), bits[s]);
        return 1;
    }

    private static long cut(BigInteger v, int n) {
        BigInteger whole = BigInteger.ONE.shiftLeft(n);
        BigInteger low = v.mod(whole);
        return (low.testBit(n - 1) ? low.subtract(whole) : low).longValueExact();
    }

    private long sheetAnswer(String name, long[] a) {
        if (name.equals("sheet")) {
            want(in(a[0], 0, 3) && Set.of(0L, 16L, 32L, 64L).contains(a[1]), BEYOND);
            int s = (int) a[0];
            bits[s] = a[1] == 0 ? 0 : bits[s];
            if (a[1] == 0) return 0;
            want(a[2] >= 0, SIZE);
            want(a[2] <= 40, BEYOND);
            bits[s] = (int) a[1];
            sheets[s] = new long[(int) a[2]];
            return a[2];
        }
        if (name.equals("copy")) {
            want(in(a[0], 0, 3) && in(a[2], 0, 3), BEYOND);
            int s = (int) a[0], t = (int) a[2];
            want(bits[s] != 0 && bits[t] != 0, MISSING);
            want(bits[s] == bits[t], KIND);
            want(a[1] >= 0 && a[3] >= 0 && a[4] >= 0, BEYOND);
            want(a[1] + a[4] <= sheets[s].length && a[3] + a[4] <= sheets[t].length, BEYOND);
            long[] were = sheets[s].clone();
            for (int i = 0; i < a[4]; i++) sheets[t][(int) a[3] + i] = were[(int) a[1] + i];
            return a[4];
        }
        needSheet(a[0]);
        int s = (int) a[0];
        if (name.equals("lays")) {
            int came = 0;
            for (int i = 0; i < sheets[s].length; i++)
                if (i < land.ways.size() && gainOk(sheets[s][i])) {
                    land.ways.get(i)[3] = (int) sheets[s][i];
                    came++;
                }
            return came;
        }
        want(in(a[1], 0, sheets[s].length - 1), BEYOND);
        if (name.equals("read")) return sheets[s][(int) a[1]];
        sheets[s][(int) a[1]] = cut(BigInteger.valueOf(a[2]), bits[s]);
        return 1;
    }

    private long imageAnswer(String name, long[] a) {
        switch (name) {
            case "image":
                image = land.twin();
                return 1;
            case "undo":
                want(image != null, NONE);
                land = image.twin();
                return land.ways.size();
            case "tear": {
                int was = image == null ? 0 : 1;
                image = null;
                return was;
            }
            case "count": {
                want(in(a[0], 0, 5), BEYOND);
                int shut = (int) land.ways.stream().filter(w -> w[5] == 1).count();
                return new int[] {land.places, land.ways.size(), land.things.size(), shut, land.weather, tape.size()}[(int) a[0]];
            }
            default:
                want(in(a[0], -1, 8), BEYOND);
                return a[0] < 0 ? Arrays.stream(found).sum() : found[(int) a[0]];
        }
    }

    private long textAnswer(String name, long[] a) {
        if (name.equals("feed")) {
            want(in(a[1], 1, 4), BEYOND);
            want(tape.size() + a[1] <= 120, FULL);
            for (int k = (int) a[1] - 1; k >= 0; k--) tape.add((int) (a[0] >> 8 * k & 0xff));
            return tape.size();
        }
        if (name.equals("wipe")) {
            int had = tape.size();
            tape.clear();
            return had;
        }
        List<Object[]> tokens = tokens();
        tape.clear();
        Land other = land.twin();
        try {
            int items = new Reading(tokens, other).run();
            land = other;
            return items;
        } catch (Fault f) {
            return -1 - f.place;
        }
    }

    // Each a place and a text; the last one, at the end, has none; so has a byte that begins no token "?".
    private List<Object[]> tokens() {
        StringBuilder sb = new StringBuilder();
        for (int b : tape) sb.append((char) b);
        List<Object[]> all = new ArrayList<>();
        java.util.regex.Matcher m = java.util.regex.Pattern.compile("[a-z]+|[0-9]+|;|[^ ]", java.util.regex.Pattern.DOTALL).matcher(sb);
        while (m.find()) all.add(new Object[] {m.start(), m.group()});
        all.add(new Object[] {sb.length(), ""});
        return all;
    }

    private static final class Reading {
        final List<Object[]> tokens;
        final Land land;
        int at = 0;

        Reading(List<Object[]> tokens, Land land) {
            this.tokens = tokens;
            this.land = land;
        }

        String word() {
            return (String) tokens.get(at)[1];
        }

        Fault fault() {
            return new Fault((Integer) tokens.get(at)[0]);
        }

        int run() {
            int items = 0;
            do {
                item();
                items++;
            } while (takes(";"));
            if (at != tokens.size() - 1) throw fault();
            return items;
        }

        boolean takes(String w) {
            if (!word().equals(w)) return false;
            at++;
            return true;
        }

        int number(int least, int most, Set<Integer> not) {
            if (!word().matches("[0-9]+")) throw fault();
            BigInteger v = new BigInteger(word());
            if (v.compareTo(BigInteger.valueOf(most)) > 0 || v.intValue() < least || not.contains(v.intValue())) throw fault();
            at++;
            return v.intValue();
        }

        void item() {
            Set<Integer> any = new HashSet<>();
            if (takes("places")) {
                land.places = number(Math.max(2, land.places), 6, any);
                return;
            }
            if (takes("weather")) {
                land.weather = number(0, 5, any);
                return;
            }
            boolean thing = word().equals("thing");
            int kind = List.of("way", "toll", "ford", "bridge", "mire", "stair").indexOf(word());
            if (!thing && kind < 0 || thing && land.things.size() == 12 || !thing && land.ways.size() == 14) throw fault();
            at++;
            int from = thing ? 0 : number(0, land.places - 1, any);
            int to = thing ? 0 : number(0, land.places - 1, Set.of(from));
            int gain = takes("gain") ? number(0, 999999, any) : takes("loss") ? -number(0, 999999, any) : 0;
            int time = takes("time") ? number(1, 999999, any) : 1;
            if (thing) land.things.add(new int[] {gain, time});
            else land.ways.add(new int[] {kind, from, to, gain, time, takes("shut") ? 1 : 0});
        }
    }
}
