/** Promises 19 to 22: trees, walks, loads, and the judge. */
public final class ClimbsTest {
    public static void main(String[] args) {
        trees();
        walks();
        loads();
        leastOfSeveral();
        judge();
        Check.end(ClimbsTest.class);
    }

    private static void told(String what, long[] got, long... want) {
        for (int i = 0; i < 4; i++) {
            Check.due(what + ", what " + i, got[i], want[i]);
        }
    }

    private static long[] tree(RoundsPerHour x) {
        return new long[] {x.tree(0), x.tree(1), x.tree(2), x.tree(3)};
    }

    private static long[] walk(RoundsPerHour x, int from, int to) {
        return new long[] {x.walk(from, to, 0), x.walk(from, to, 1), x.walk(from, to, 2), x.walk(from, to, 3)};
    }

    private static long[] load(RoundsPerHour x, int k) {
        return new long[] {x.load(k, 0), x.load(k, 1), x.load(k, 2), x.load(k, 3)};
    }

    private static void trees() {
        RoundsPerHour x = new RoundsPerHour();
        Check.due("19: what 4 ahead of NONE", x.tree(4), Check.L_BEYOND);
        Check.due("19: what -1", x.tree(-1), Check.L_BEYOND);
        Check.due("19: none", x.tree(0), Check.L_NONE);
        x.places(3);
        x.way(0, 1, 0, 1, 4);
        Check.due("19: not all joined", x.tree(2), Check.L_NONE);
        x.way(0, 2, 1, 2, 4);
        // Whichever way they go: 3 in 8.
        told("19: one tree", tree(x), 3, 8, 3, 1);
        x.way(0, 0, 1, 5, 5);
        // Ways 1 and 2: 7 in 9, better than 3 in 8; ways 0 and 2 are none.
        told("19: two", tree(x), 7, 9, 6, 2);
        x.change(2, 5, 1);
        told("19: a shut one is left out", tree(x), 3, 8, 3, 1);
        x.change(0, 5, 1);
        Check.due("19: too few are open", x.tree(3), Check.L_NONE);
        x.change(0, 5, 0);
        x.change(0, 3, -6);
        told("19: below 0", tree(x), -1, 2, 3, 1);
        x.change(0, 3, -2);
        told("19: 0 by 1", tree(x), 0, 1, 3, 1);
        // From 1 in 10 to 60 in 100 (10 * 60 - 100 is more than 10 * 5 - 2), then to 5 in 2.
        RoundsPerHour y = new RoundsPerHour();
        y.way(0, 0, 1, 1, 10);
        y.way(0, 1, 0, 60, 100);
        y.way(0, 0, 1, 5, 2);
        told("19: a long climb", tree(y), 5, 2, 4, 3);
        RoundsPerHour z = new RoundsPerHour();
        z.places(6);
        for (int w = 0; w < 14; w++) {
            z.way(0, w % 5, 5, w, 1);
        }
        told("19: six places", tree(z), 11, 1, 0b11111000000000, 2);
        z.weather(4);
        z.change(0, 0, 5);
        // A STAIR brings 9 in 3.
        told("19: kinds count", tree(z), 11, 1, 0b11111000000000, 2);
        z.change(0, 3, 999);
        told("19: kinds and weather", tree(z), 1008 + 13 + 12 + 11 + 9, 7, 0b11101000000001 | 1 << 12, 2);
    }

    private static void walks() {
        RoundsPerHour x = new RoundsPerHour();
        x.places(4);
        Check.due("20: what 4", x.walk(0, 1, 4), Check.L_BEYOND);
        Check.due("20: what -1", x.walk(0, 1, -1), Check.L_BEYOND);
        Check.due("20: from -1", x.walk(-1, 1, 0), Check.L_BEYOND);
        Check.due("20: to 4", x.walk(0, 4, 0), Check.L_BEYOND);
        Check.due("20: falls", x.walk(2, 1, 0), Check.L_BEYOND);
        Check.due("20: stays", x.walk(1, 1, 0), Check.L_BEYOND);
        Check.due("20: none", x.walk(0, 3, 0), Check.L_NONE);
        x.way(0, 3, 0, 100, 1);
        x.way(0, 0, 2, 3, 2);
        x.way(0, 2, 1, 100, 1);
        x.way(0, 1, 3, 100, 1);
        Check.due("20: only rising ones", x.walk(0, 3, 0), Check.L_NONE);
        x.way(0, 2, 3, 3, 4);
        told("20: two ways", walk(x, 0, 3), 1, 1, 0b10010, 1);
        told("20: one way", walk(x, 2, 3), 3, 4, 0b10000, 1);
        x.way(0, 0, 3, 9, 8);
        told("20: straight", walk(x, 0, 3), 9, 8, 0b100000, 2);
        x.change(5, 5, 1);
        told("20: shut", walk(x, 0, 3), 1, 1, 0b10010, 1);
        x.way(0, 0, 1, -90, 1);
        // By place 1: 10 in 2; by places 0, 2, 3: 6 in 6. The least one is 0, 2, 3.
        told("20: by another place", walk(x, 0, 3), 5, 1, 0b1001000, 2);
        Check.due("20: not from there", x.walk(1, 2, 0), Check.L_NONE);
        told("20: to a place between", walk(x, 0, 2), 3, 2, 0b10, 1);
    }

    private static void loads() {
        RoundsPerHour x = new RoundsPerHour();
        Check.due("21: no things", x.load(1, 0), Check.L_BEYOND);
        x.thing(2, 1);
        x.thing(12, 3);
        x.thing(5, 1);
        Check.due("21: k 0", x.load(0, 0), Check.L_BEYOND);
        Check.due("21: k 4", x.load(4, 0), Check.L_BEYOND);
        Check.due("21: what 4", x.load(1, 4), Check.L_BEYOND);
        Check.due("21: what -1", x.load(1, -1), Check.L_BEYOND);
        // With BASE 0 in 1: 2 in 2, 12 in 4, 5 in 2.
        told("21: one", load(x, 1), 3, 1, 2, 2);
        // 14 in 5, 7 in 3, 17 in 5.
        told("21: two", load(x, 2), 17, 5, 6, 2);
        told("21: all", load(x, 3), 19, 6, 7, 1);
        x.alter(-1, 0, -20);
        x.alter(-1, 1, 8);
        // -18 in 9, -8 in 11, -15 in 9.
        told("21: with BASE", load(x, 1), -8, 11, 2, 2);
        x.alter(-1, 0, -2);
        x.alter(-1, 1, 999999);
        told("21: with a long BASE", load(x, 3), 17, 1000004, 7, 1);
        x.alter(0, 0, 2);
        x.alter(1, 0, 2);
        x.alter(2, 0, 2);
        told("21: 0 by 1", load(x, 1), 0, 1, 1, 1);
        RoundsPerHour y = new RoundsPerHour();
        for (int t = 0; t < 12; t++) {
            y.thing(999999999, 999999);
        }
        y.alter(-1, 0, 999999999);
        y.alter(-1, 1, 999999);
        told("21: as far as can be", load(y, 12), 1001001, 1001, 4095, 1);
        told("21: the least of many", load(y, 5), 1001001, 1001, 31, 1);
    }

    // Of several best ones the least set is told, though the climb may end at another one.
    private static void leastOfSeveral() {
        RoundsPerHour x = new RoundsPerHour();
        x.way(0, 0, 1, 1, 1);
        x.way(0, 0, 1, 4, 2);
        x.way(0, 0, 1, 6, 3);
        // From 1 in 1 both 4 - 2 and 6 - 3: the climb goes to way 2, but way 1 is as good.
        told("19: the least of the best", tree(x), 2, 1, 2, 2);
        told("20: the least of the best", walk(x, 0, 1), 2, 1, 2, 2);
        RoundsPerHour y = new RoundsPerHour();
        y.alter(-1, 0, 1);
        y.thing(1, 1);
        y.thing(5, 2);
        y.thing(7, 3);
        // With BASE 1 in 1: 2 in 2, 6 in 3, 8 in 4.
        told("21: the least of the best", load(y, 1), 2, 1, 2, 2);
        RoundsPerHour z = new RoundsPerHour();
        z.places(4);
        z.way(0, 1, 3, 2, 1);
        z.way(0, 0, 1, 2, 1);
        z.way(0, 2, 3, 2, 1);
        z.way(0, 0, 2, 2, 1);
        z.way(0, 0, 3, 4, 2);
        // All walks bring 2 an hour: the set counts, not the places gone through.
        told("20: the least set", walk(z, 0, 3), 2, 1, 3, 1);
        told("19: the first ways", tree(z), 2, 1, 7, 1);
    }

    private static void judge() {
        RoundsPerHour x = new RoundsPerHour();
        x.places(4);
        x.way(0, 0, 1, 4, 3);
        x.way(0, 1, 0, 2, 1);
        x.way(0, 2, 3, 1, 1);
        x.way(1, 3, 2, 9, 3);
        x.way(0, 1, 2, -9, 1);
        x.way(0, 3, 0, 0, 1);
        x.way(0, 0, 1, 9, 9);
        Check.due("22: sort 3", x.ratio(3, 3, 0), Check.L_BEYOND);
        Check.due("22: sort -1", x.ratio(-1, 3, 0), Check.L_BEYOND);
        Check.due("22: what 2", x.ratio(0, 3, 2), Check.L_BEYOND);
        Check.due("22: what -1", x.ratio(0, 0, -1), Check.L_BEYOND);
        Check.due("22: ring above", x.ratio(0, 3, 0), 3);
        Check.due("22: ring below", x.ratio(0, 3, 1), 2);
        Check.due("22: ring with a TOLL", x.ratio(0, 12, 0), 3);
        Check.due("22: below", x.ratio(0, 12, 1), 5);
        Check.due("22: long ring", x.ratio(0, 1 | 4 | 16 | 32, 0), -2);
        Check.due("22: long ring, below", x.ratio(0, 1 | 4 | 16 | 32, 1), 3);
        Check.due("22: two rings", x.ratio(0, 15, 0), Check.L_STATE);
        Check.due("22: a way too many", x.ratio(0, 3 | 64, 0), Check.L_STATE);
        Check.due("22: a way hangs on", x.ratio(0, 3 | 16, 0), Check.L_STATE);
        Check.due("22: a way leads to it", x.ratio(0, 12 | 16, 0), Check.L_STATE);
        Check.due("22: a walk", x.ratio(0, 1 | 16, 0), Check.L_STATE);
        Check.due("22: both there", x.ratio(0, 1 | 64, 0), Check.L_STATE);
        Check.due("22: a ring with a loop inside", x.ratio(0, 1 | 16 | 4 | 8, 0), Check.L_STATE);
        Check.due("22: nothing", x.ratio(0, 0, 0), Check.L_STATE);
        Check.due("22: ways that are not", x.ratio(0, 3 | 128, 0), Check.L_STATE);
        Check.due("22: below 0", x.ratio(0, -1, 0), Check.L_STATE);
        Check.due("22: lowest", x.ratio(0, Integer.MIN_VALUE + 3, 0), Check.L_STATE);
        x.change(1, 5, 1);
        Check.due("22: shut", x.ratio(0, 3, 0), Check.L_STATE);
        x.change(1, 5, 0);
        Check.due("22: tree above", x.ratio(1, 1 | 4 | 16, 0), -4);
        Check.due("22: tree below", x.ratio(1, 1 | 4 | 16, 1), 5);
        Check.due("22: another tree", x.ratio(1, 2 | 16 | 32, 0), -7);
        Check.due("22: another tree, below", x.ratio(1, 2 | 16 | 32, 1), 3);
        Check.due("22: tree of the last ones", x.ratio(1, 8 | 32 | 64, 0), 11);
        Check.due("22: twins", x.ratio(1, 1 | 4 | 64, 0), Check.L_STATE);
        Check.due("22: there and back", x.ratio(1, 4 | 8 | 16, 0), Check.L_STATE);
        Check.due("22: a way that is not", x.ratio(1, 1 | 16 | 128, 0), Check.L_STATE);
        Check.due("22: the highest bit", x.ratio(1, 1 | 16 | Integer.MIN_VALUE, 0), Check.L_STATE);
        Check.due("22: too few", x.ratio(1, 1 | 4, 0), Check.L_STATE);
        Check.due("22: too many", x.ratio(1, 1 | 4 | 16 | 32, 0), Check.L_STATE);
        Check.due("22: not all joined", x.ratio(1, 1 | 2 | 4, 0), Check.L_STATE);
        Check.due("22: no tree of none", x.ratio(1, 0, 0), Check.L_STATE);
        Check.due("22: tree below 0", x.ratio(1, -8, 0), Check.L_STATE);
        x.change(0, 5, 1);
        Check.due("22: shut tree", x.ratio(1, 1 | 4 | 16, 0), Check.L_STATE);
        x.thing(3, 1);
        x.thing(7, 8);
        Check.due("22: load", x.ratio(2, 3, 0), 1);
        Check.due("22: load below", x.ratio(2, 3, 1), 1);
        Check.due("22: load of one", x.ratio(2, 2, 0), 7);
        Check.due("22: load of one, below", x.ratio(2, 2, 1), 9);
        Check.due("22: load of the first", x.ratio(2, 1, 0), 3);
        Check.due("22: load of the first, below", x.ratio(2, 1, 1), 2);
        Check.due("22: load of none", x.ratio(2, 0, 0), Check.L_STATE);
        Check.due("22: no such thing", x.ratio(2, 4, 0), Check.L_STATE);
        Check.due("22: load below 0", x.ratio(2, -1, 0), Check.L_STATE);
        RoundsPerHour y = new RoundsPerHour();
        y.places(6);
        for (int p = 0; p < 6; p++) {
            y.way(0, 5 - p, (6 - p) % 6, 2, 1);
        }
        Check.due("22: a ring of six", y.ratio(0, 63, 0), 2);
        Check.due("22: a tree of five", y.ratio(1, 62, 1), 1);
    }
}
