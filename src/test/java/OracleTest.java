import java.util.Arrays;
import java.util.Random;

/** Runs of chance calls (always the same ones), each answer compared with the Oracle's. */
public final class OracleTest {
    private static final String[] NAMES = {"places", "weather", "way", "of", "change", "as", "thing", "alter", "its",
        "ring", "ringWays", "lift", "worth", "raise", "lose", "kind", "season", "tree", "walk", "load", "ratio",
        "compare", "reduce", "add", "feed", "wipe", "text", "sheet", "write", "read", "copy", "lays",
        "image", "undo", "tear", "count", "status"};
    private final Random chance;
    private final RoundsPerHour x = new RoundsPerHour();
    private final Oracle oracle = new Oracle();
    private final int run;
    private final int size;   // how big gains and times are
    private final int mostWays;

    private OracleTest(int run) {
        this.run = run;
        chance = new Random(run * 7919L + 17);
        size = chance.nextInt(4);
        mostWays = run % 12 == 0 ? 14 : 4 + chance.nextInt(6);
    }

    public static void main(String[] args) {
        int from = args.length > 0 ? Integer.parseInt(args[0]) : 1;
        int to = args.length > 1 ? Integer.parseInt(args[1]) : 150;
        for (int run = from; run <= to; run++) {
            new OracleTest(run).go();
        }
        Check.end(OracleTest.class);
    }

    private void go() {
        for (int i = 0; i < 120; i++) {
            int r = chance.nextInt(24);
            if (r < 3) {
                told();
            } else if (r == 3) {
                fractions();
            } else if (r == 4) {
                everyBest();
            } else {
                String name = NAMES[chance.nextInt(NAMES.length)];
                if (i < 25 && chance.nextBoolean()) name = chance.nextInt(3) == 0 ? "thing" : i < 3 ? "places" : "way";
                if (name.equals("way") && oracle.land.ways.size() >= mostWays && chance.nextInt(4) != 0) name = "change";
                if (name.equals("raise") && oracle.land.ways.size() > 10 && chance.nextInt(3) != 0) name = "ring";
                same(name, arguments(name));
            }
        }
        for (int which = -1; which < 9; which++) same("status", which);
        for (int w = 0; w < oracle.land.ways.size(); w++) for (int what = 0; what < 8; what++) same("of", w, what);
    }

    // A sheet full of numbers, and what fractions do in it.
    private void fractions() {
        int s = chance.nextInt(4);
        int n = chance.nextInt(10);
        same("sheet", s, pick(16, 32, 64, 64), n);
        for (int i = 0; i < n; i++) same("write", s, i, number());
        for (int i = 0; i < 12; i++) {
            same("compare", s, near(0, n - 2), near(0, n - 2));
            if (chance.nextBoolean()) same("reduce", s, near(0, n - 2));
            if (chance.nextBoolean()) same("add", s, near(0, n - 2), near(0, n - 2));
            if (i % 3 == 0) same("copy", s, near(0, n / 2), s, near(0, n / 2), near(0, n / 2));
        }
        for (int i = 0; i < n; i++) same("read", s, i);
        if (chance.nextInt(4) == 0) same("lays", s);
    }

    // All that is asked of one country.
    private void everyBest() {
        for (int what = 0; what < 4; what++) {
            same("tree", what);
            for (int to = 1; to < oracle.land.places; to++) same("walk", chance.nextInt(to), to, what);
            for (int k = 1; k <= oracle.land.things.size(); k++) same("load", k, what);
        }
        for (int from = 0; from < oracle.land.places; from++)
            for (int to = 0; to < oracle.land.places; to++) same("lift", from, to);
    }

    private void same(String name, long... a) {
        long want = oracle.call(name, a);
        Check.due("run " + run + ": " + name + Arrays.toString(a), call(name, a), want);
    }

    private int pick(int... of) {
        return of[chance.nextInt(of.length)];
    }

    // Mostly within, now and then just beyond, seldom far beyond.
    private int near(int least, int most) {
        int r = chance.nextInt(40);
        if (r == 0) return least - 1;
        if (r == 1) return most + 1;
        if (r == 2) return pick(Integer.MIN_VALUE, Integer.MAX_VALUE, -1, 1 << 20);
        return most < least ? least : least + chance.nextInt(most - least + 1);
    }

    private int gain() {
        if (chance.nextInt(40) == 0) return pick(-1000000000, 1000000000, -999999999, 999999999, Integer.MIN_VALUE, Integer.MAX_VALUE);
        switch (size) {
            case 0: return chance.nextInt(9) - 4;
            case 1: return chance.nextInt(101) - 50;
            case 2: return chance.nextInt(200001) - 100000;
            default: return chance.nextInt(1999999999) - 999999999;
        }
    }

    private int time() {
        if (chance.nextInt(40) == 0) return pick(0, 1, 999999, 1000000, -1, Integer.MIN_VALUE, Integer.MAX_VALUE);
        switch (size) {
            case 0: return 1 + chance.nextInt(3);
            case 1: return 1 + chance.nextInt(20);
            case 2: return 1 + chance.nextInt(1000);
            default: return 1 + chance.nextInt(999999);
        }
    }

    private long number() {
        int r = chance.nextInt(10);
        if (r < 5) return chance.nextInt(41) - 20;
        if (r == 5) return gain();
        if (r == 6) return pick(-32768, 32767, -65536, 65536, Integer.MIN_VALUE, Integer.MAX_VALUE, 0);
        if (r == 7) return chance.nextBoolean() ? Long.MIN_VALUE : chance.nextBoolean() ? Long.MAX_VALUE : Long.MIN_VALUE + 1;
        return chance.nextLong() >> chance.nextInt(64);
    }

    private long[] arguments(String name) {
        int ways = oracle.land.ways.size(), places = oracle.land.places, things = oracle.land.things.size();
        switch (name) {
            case "places": return new long[] {chance.nextInt(3) == 0 ? near(2, 6) : near(4, 6)};
            case "weather": return new long[] {near(0, 5)};
            case "way": {
                int from = near(0, places - 1), to = near(0, places - 1);
                boolean turn = run % 2 == 0 && from > to && chance.nextInt(3) != 0;
                return new long[] {near(0, 5), turn ? to : from, turn ? from : to, gain(), time()};
            }
            case "of": return new long[] {near(0, ways - 1), near(0, 7)};
            case "change": {
                int what = near(0, 5);
                long v = what == 0 ? near(0, 5) : what == 1 || what == 2 ? near(0, places - 1)
                        : what == 3 ? gain() : what == 4 ? time() : chance.nextInt(3) == 0 ? near(0, 1) : 0;
                return new long[] {near(0, ways - 1), what, v};
            }
            case "as": return new long[] {near(0, ways - 1), near(0, 5)};
            case "thing": return new long[] {gain(), time()};
            case "alter": {
                int what = near(0, 1);
                return new long[] {near(-1, things - 1), what, what == 0 ? gain() : time()};
            }
            case "its": return new long[] {near(-1, things - 1), near(0, 1)};
            case "ring": return new long[] {near(0, 1)};
            case "lift": return new long[] {near(0, places - 1), near(0, places - 1)};
            case "worth": return new long[] {number()};
            case "raise": case "kind": return new long[] {near(0, ways - 1)};
            case "tree": return new long[] {near(0, 3)};
            case "walk": {
                int from = near(0, places - 2);
                return new long[] {from, chance.nextInt(5) == 0 ? near(0, places - 1) : near(Math.max(0, Math.min(from, 4)) + 1, places - 1), near(0, 3)};
            }
            case "load": return new long[] {near(1, things), near(0, 3)};
            case "ratio": return judged(ways, things);
            case "compare": case "add": return new long[] {sheet(), near(0, 6), near(0, 6)};
            case "reduce": return new long[] {sheet(), near(0, 6)};
            case "feed": return new long[] {chance.nextInt(), near(1, 4)};
            case "sheet": return new long[] {sheet(), chance.nextInt(20) == 0 ? pick(8, -1, 1, 128) : pick(0, 16, 32, 64, 64, 64, 32, 16),
                chance.nextInt(6) == 0 ? near(0, 40) : near(0, 9)};
            case "write": return new long[] {sheet(), near(0, 8), number()};
            case "read": return new long[] {sheet(), near(0, 8)};
            case "copy": return new long[] {sheet(), near(0, 5), sheet(), near(0, 5), near(0, 5)};
            case "lays": return new long[] {sheet()};
            case "count": return new long[] {near(0, 5)};
            case "status": return new long[] {near(-1, 8)};
            default: return new long[0];
        }
    }

    private int sheet() {
        return near(0, chance.nextInt(4) == 0 ? 3 : 1);
    }

    // A set that is a choice, often; chance ones would seldom be.
    private long[] judged(int ways, int things) {
        int sort = near(0, 2);
        int bits = sort == 2 ? things : ways;
        int set = near(0, (1 << bits) - 1);
        for (int tries = 0; tries < 200 && chance.nextInt(20) != 0 && sort != 2; tries++) {
            set = chance.nextInt(1 << bits) & (chance.nextBoolean() ? -1 : chance.nextInt(1 << 14));
            if (sort == 0 ? oracle.land.ring(set) : oracle.land.tree(set)) break;
        }
        return new long[] {sort, set, near(0, 1)};
    }

    private void told() {
        StringBuilder sb = new StringBuilder();
        int items = 1 + chance.nextInt(5);
        for (int i = 0; i < items; i++) {
            if (i > 0) sb.append(chance.nextInt(30) == 0 ? "" : chance.nextBoolean() ? ";" : " ; ");
            item(sb);
        }
        if (chance.nextInt(4) == 0) spoil(sb);
        if (sb.length() > 120) sb.setLength(120);
        if (chance.nextInt(10) != 0) same("wipe");
        int at = 0;
        while (at < sb.length()) {
            int n = Math.min(1 + chance.nextInt(4), sb.length() - at);
            int bytes = n == 4 ? 0 : chance.nextInt() << 8 * n;
            for (int k = 0; k < n; k++) bytes |= (sb.charAt(at + k) & 255) << 8 * (n - 1 - k);
            same("feed", bytes, n);
            at += n;
        }
        same("text");
        for (int what = 0; what < 6; what++) same("count", what);
        if (!oracle.land.ways.isEmpty()) for (int what = 0; what < 8; what++) same("of", oracle.land.ways.size() - 1, what);
        if (!oracle.land.things.isEmpty()) for (int what = 0; what < 2; what++) same("its", oracle.land.things.size() - 1, what);
    }

    private void item(StringBuilder sb) {
        String gap = chance.nextBoolean() ? " " : "   ";
        int r = chance.nextInt(8);
        if (r == 0) {
            sb.append("places").append(gap).append(Math.abs(near(oracle.land.places, 6)));
        } else if (r == 1) {
            sb.append(" weather").append(gap).append(Math.abs(near(0, 5)));
        } else if (r == 2) {
            sb.append("thing").append(gap);
            gainAndTime(sb, gap);
        } else {
            sb.append(new String[] {"way", "toll", "ford", "bridge", "mire", "stair"}[chance.nextInt(6)]).append(gap);
            int from = chance.nextInt(oracle.land.places);
            sb.append(from).append(gap).append(chance.nextInt(20) == 0 ? near(0, 6) : (from + 1 + chance.nextInt(oracle.land.places - 1)) % oracle.land.places);
            gainAndTime(sb, gap);
            if (chance.nextInt(3) == 0) sb.append(gap).append("shut");
        }
    }

    private void gainAndTime(StringBuilder sb, String gap) {
        if (chance.nextBoolean()) {
            sb.append(gap).append(chance.nextBoolean() ? "gain" : "loss").append(chance.nextBoolean() ? gap : "");
            sb.append(chance.nextInt(10) == 0 ? "0999999" : chance.nextInt(20) == 0 ? "1000000" : "" + chance.nextInt(100));
        }
        if (chance.nextBoolean()) {
            sb.append(gap).append("time").append(gap).append(chance.nextInt(10) == 0 ? pick(0, 999999, 1000000) : 1 + chance.nextInt(30));
        }
    }

    private void spoil(StringBuilder sb) {
        int at = chance.nextInt(sb.length());
        switch (chance.nextInt(5)) {
            case 0: sb.setCharAt(at, (char) chance.nextInt(256)); break;
            case 1: sb.setCharAt(at, "az09; wA\t#".charAt(chance.nextInt(10))); break;
            case 2: sb.setLength(at); break;
            case 3: sb.deleteCharAt(at); break;
            default: sb.insert(at, "; x1 ".charAt(chance.nextInt(5)));
        }
    }

    private long call(String name, long[] v) {
        int[] a = new int[5];
        for (int i = 0; i < v.length; i++) a[i] = (int) v[i];
        switch (name) {
            case "places": return x.places(a[0]);
            case "weather": return x.weather(a[0]);
            case "way": return x.way(a[0], a[1], a[2], a[3], a[4]);
            case "of": return x.of(a[0], a[1]);
            case "change": return x.change(a[0], a[1], a[2]);
            case "as": return x.as(a[0], a[1]);
            case "thing": return x.thing(a[0], a[1]);
            case "alter": return x.alter(a[0], a[1], a[2]);
            case "its": return x.its(a[0], a[1]);
            case "ring": return x.ring(a[0]);
            case "ringWays": return x.ringWays();
            case "lift": return x.lift(a[0], a[1]);
            case "worth": return x.worth(v[0]);
            case "raise": return x.raise(a[0]);
            case "lose": return x.lose();
            case "kind": return x.kind(a[0]);
            case "season": return x.season();
            case "tree": return x.tree(a[0]);
            case "walk": return x.walk(a[0], a[1], a[2]);
            case "load": return x.load(a[0], a[1]);
            case "ratio": return x.ratio(a[0], a[1], a[2]);
            case "compare": return x.compare(a[0], a[1], a[2]);
            case "reduce": return x.reduce(a[0], a[1]);
            case "add": return x.add(a[0], a[1], a[2]);
            case "feed": return x.feed(a[0], a[1]);
            case "wipe": return x.wipe();
            case "text": return x.text();
            case "sheet": return x.sheet(a[0], a[1], a[2]);
            case "write": return x.write(a[0], a[1], v[2]);
            case "read": return x.read(a[0], a[1]);
            case "copy": return x.copy(a[0], a[1], a[2], a[3], a[4]);
            case "lays": return x.lays(a[0]);
            case "image": return x.image();
            case "undo": return x.undo();
            case "tear": return x.tear();
            case "count": return x.count(a[0]);
            case "status": return x.status(a[0]);
            default: throw new IllegalStateException(name);
        }
    }
}
