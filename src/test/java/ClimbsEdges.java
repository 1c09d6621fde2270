/** Promises 19 to 22 at their edges. */
final class ClimbsEdges extends Edge {
    private ClimbsEdges() { }

    static void all() {
        treeTold();
        treeBeyond();
        treeNone();
        walkTold();
        walkBeyond();
        walkNone();
        loadTold();
        loadBeyond();
        judgeTold();
        judgeBeyond();
        judgeState();
    }

    private interface Told {
        long on(RoundsPerHour x, int what);
    }

    private static void told(String label, Make ready, Told act, long... want) {
        for (int what = 0; what < 4; what++) {
            int which = what;
            asked(label + ", what " + what, want[what], ready, x -> act.on(x, which));
        }
    }

    // The rich one, with all its WAYS open and a WAY 5 from place 4 to 0 that brings 1 in 1.
    private static void woods(RoundsPerHour x) {
        rich(x);
        x.change(4, 5, 0);
        x.way(0, 4, 0, 1, 1);
    }

    // Fourteen WAYS from 0 to 1: WAY w brings w by the hour, each lasts less than half of the one ahead, the last one 1.
    private static void stairs(RoundsPerHour x) {
        for (int w = 0; w < 14; w++) {
            int time = (1 << (14 - w)) - 1;
            x.way(0, 0, 1, w * time, time);
        }
    }

    // Five WAYS, in a row through six places.
    private static Make row(int kind, int gain, int time) {
        return x -> {
            x.places(6);
            for (int p = 0; p < 5; p++) {
                x.way(kind, p, p + 1, gain, time);
            }
        };
    }

    // Five WAYS through six places, the last one in two ways: 4999992999 in 4999993, and, just more, 4999993999 in 4999994.
    private static void near(RoundsPerHour x) {
        row(0, 999999000, TIME).on(x);
        x.change(4, 3, 999996999);
        x.change(4, 4, TIME - 2);
        x.way(0, 4, 5, 999997999, TIME - 1);
    }

    // 1 in 999999, and 4000 in 1: products are above 31 bits.
    private static void far(RoundsPerHour x) {
        x.way(0, 0, 1, 1, TIME);
        x.way(0, 0, 1, 4000, 1);
        x.thing(1, TIME - 1);
        x.thing(4000, 1);
    }

    private static void treeTold() {
        sentence(19, "Of TREES");
        // WAYS 4 and 5 (3 in 3) are in each; with 0 and 2 it is 89 in 21, with 0 and 3 57 in 16, with 1 and 2 41 in 17,
        // with 1 and 3 9 in 12, with 2 and 3 59 in 22.
        told("five places", ClimbsEdges::woods, (x, what) -> x.tree(what), 89, 21, 53, 1);
        told("WAY 0 SHUT", x -> {
            woods(x);
            x.change(0, 5, 1);
        }, (x, what) -> x.tree(what), 59, 22, 60, 2);
        told("fewest places", x -> x.way(0, 1, 0, -4, 2), (x, what) -> x.tree(what), -2, 1, 1, 1);
        told("most places", row(5, GAIN, TIME), (x, what) -> x.tree(what), 15873016, 15873, 31, 1);
        told("least", row(0, -GAIN, 1), (x, what) -> x.tree(what), -GAIN, 1, 31, 1);
        told("most WAYS, most STEPS", ClimbsEdges::stairs, (x, what) -> x.tree(what), 13, 1, 1 << 13, 14);
        told("just more", ClimbsEdges::near, (x, what) -> x.tree(what), 4999993999L, 4999994, 47, 2);
        told("far more", ClimbsEdges::far, (x, what) -> x.tree(what), 4000, 1, 2, 2);
        told("0 is 0 by 1", x -> x.way(0, 0, 1, 0, TIME), (x, what) -> x.tree(what), 0, 1, 1, 1);
        RoundsPerHour one = made(ClimbsEdges::stairs);
        due("STEPS", one.tree(3), 14);
        due("STEPS again", one.tree(3), 14);
        one.change(0, 3, GAIN);
        due("STEPS since it begins with the BEST one", one.tree(3), 1);
        one.places(3);
        due("none since there is another place", one.tree(3), L_NONE);
    }

    private static void treeBeyond() {
        sentence(19, "BEYOND: what");
        for (int what : new int[] {-1, 4, LEAST, MOST}) {
            refused("tree(" + what + ")", L_BEYOND, ClimbsEdges::woods, x -> x.tree(what));
            refused("ahead of NONE, tree(" + what + ")", L_BEYOND, Edge::bare, x -> x.tree(what));
        }
    }

    private static void treeNone() {
        sentence(19, "NONE: there is none");
        Make apart = x -> {
            x.places(6);
            for (int w = 0; w < 14; w++) {
                x.way(0, w % 3 + (w < 7 ? 0 : 3), (w + 1) % 3 + (w < 7 ? 0 : 3), 1, 1);
            }
        };
        Make shut = x -> {
            x.way(0, 0, 1, 1, 1);
            x.change(0, 5, 1);
        };
        for (int what = 0; what < 4; what++) {
            int which = what;
            refused("no WAYS", L_NONE, Edge::bare, x -> x.tree(which));
            refused("a place is left out", L_NONE, Edge::rich, x -> x.tree(which));
            refused("in two parts, though full", L_NONE, apart, x -> x.tree(which));
            refused("SHUT", L_NONE, shut, x -> x.tree(which));
        }
    }

    private static void walkTold() {
        sentence(20, "Of WALKS");
        told("0 to 1", Edge::rich, (x, what) -> x.walk(0, 1, what), 7, 1, 1, 1);
        told("0 to 3", Edge::rich, (x, what) -> x.walk(0, 3, what), 43, 9, 5, 1);
        told("1 to 3", Edge::rich, (x, what) -> x.walk(1, 3, what), 11, 3, 4, 1);
        told("from the first to the last", row(5, GAIN, TIME), (x, what) -> x.walk(0, 5, what), 15873016, 15873, 31, 1);
        told("from the last but one to the last", row(0, -GAIN, 1), (x, what) -> x.walk(4, 5, what), -GAIN, 1, 16, 1);
        told("most WAYS, most STEPS", ClimbsEdges::stairs, (x, what) -> x.walk(0, 1, what), 13, 1, 1 << 13, 14);
        told("just more", ClimbsEdges::near, (x, what) -> x.walk(0, 5, what), 4999993999L, 4999994, 47, 2);
        told("far more", ClimbsEdges::far, (x, what) -> x.walk(0, 1, what), 4000, 1, 2, 2);
        // 1 in 1 from place to place, and 6 in 5 at once.
        Make leap = x -> {
            row(0, 1, 1).on(x);
            x.way(0, 0, 5, 6, 5);
        };
        told("at once", leap, (x, what) -> x.walk(0, 5, what), 6, 5, 32, 2);
        told("as good", x -> {
            leap.on(x);
            x.change(5, 3, 5);
        }, (x, what) -> x.walk(0, 5, what), 1, 1, 31, 1);
        RoundsPerHour one = made(ClimbsEdges::stairs);
        due("STEPS", one.walk(0, 1, 3), 14);
        due("STEPS again", one.walk(0, 1, 3), 14);
        RoundsPerHour other = made(row(0, 1, 1));
        due("all", other.walk(0, 5, 2), 31);
        due("some", other.walk(1, 4, 2), 14);
        due("others", other.walk(3, 5, 2), 24);
        other.change(0, 5, 1);
        due("none since the first one is SHUT", other.walk(0, 5, 2), L_NONE);
        due("some still", other.walk(1, 5, 2), 30);
    }

    private static void walkBeyond() {
        sentence(20, "BEYOND: what, from, to (also if from isn't the lesser number)");
        for (int what : new int[] {-1, 4, LEAST, MOST}) {
            refused("walk(0, 1, " + what + ")", L_BEYOND, x -> x.walk(0, 1, what));
            refused("ahead of NONE, walk(0, 1, " + what + ")", L_BEYOND, Edge::bare, x -> x.walk(0, 1, what));
        }
        for (int p : new int[] {-1, LEAST}) {
            refused("walk(" + p + ", 1, 0)", L_BEYOND, x -> x.walk(p, 1, 0));
            refused("walk(0, " + p + ", 0)", L_BEYOND, x -> x.walk(0, p, 0));
        }
        for (int p : new int[] {5, 6, MOST}) {
            refused("walk(" + p + ", 1, 0)", L_BEYOND, x -> x.walk(p, 1, 0));
            refused("walk(0, " + p + ", 0)", L_BEYOND, x -> x.walk(0, p, 0));
        }
        refused("walk(0, 6, 0) of 6", L_BEYOND, Edge::full, x -> x.walk(0, 6, 0));
        refused("walk(5, 6, 0) of 6", L_BEYOND, Edge::full, x -> x.walk(5, 6, 0));
        for (int p = 0; p < 5; p++) {
            for (int q = 0; q <= p; q++) {
                int from = p;
                int to = q;
                refused("walk(" + p + ", " + q + ", 0)", L_BEYOND, x -> x.walk(from, to, 0));
            }
        }
        refused("ahead of NONE, to 2 of 2", L_BEYOND, Edge::bare, x -> x.walk(0, 2, 0));
        refused("ahead of NONE, one and the same", L_BEYOND, Edge::bare, x -> x.walk(1, 1, 0));
    }

    private static void walkNone() {
        sentence(20, "NONE: there is none");
        for (int what = 0; what < 4; what++) {
            int which = what;
            refused("no WAYS", L_NONE, Edge::bare, x -> x.walk(0, 1, which));
            refused("none leads there", L_NONE, x -> x.walk(0, 4, which));
            refused("it is SHUT", L_NONE, x -> x.walk(2, 3, which));
            refused("it leads back", L_NONE, x -> x.way(0, 1, 0, 1, 1), x -> x.walk(0, 1, which));
        }
        // From 0 up to 2, down to 1, up to 3: it doesn't only rise.
        refused("it falls on its way", L_NONE, x -> {
            x.places(4);
            x.way(0, 0, 2, 1, 1);
            x.way(0, 2, 1, 1, 1);
            x.way(0, 1, 3, 1, 1);
        }, x -> x.walk(0, 3, 0));
    }

    private static void loadTold() {
        sentence(21, "Of LOADS of k (1 to as many as there are THINGS)");
        // BASE 7 in 4, THINGS 14 in 5, -3 in 2, 20 in 9.
        told("fewest", Edge::rich, (x, what) -> x.load(1, what), 7, 3, 1, 1);
        told("two", Edge::rich, (x, what) -> x.load(2, what), 41, 18, 5, 2);
        told("all", Edge::rich, (x, what) -> x.load(3, what), 19, 10, 7, 1);
        told("all, just one", x -> x.thing(4, 1), (x, what) -> x.load(1, what), 2, 1, 1, 1);
        Make most = x -> {
            for (int t = 0; t < 12; t++) {
                x.thing(GAIN, TIME);
            }
            x.alter(-1, 0, GAIN);
            x.alter(-1, 1, TIME);
        };
        told("all of most", most, (x, what) -> x.load(12, what), 1001001, 1001, 4095, 1);
        told("all but one of most", most, (x, what) -> x.load(11, what), 1001001, 1001, 2047, 1);
        // BASE 0 in 1; with it thing t brings t by the hour, in less than half of the time of the one ahead.
        told("most STEPS", x -> {
            for (int t = 0; t < 12; t++) {
                int time = (1 << (13 - t)) - 1;
                x.thing(t * time, time - 1);
            }
        }, (x, what) -> x.load(1, what), 11, 1, 1 << 11, 12);
        told("far more", ClimbsEdges::far, (x, what) -> x.load(1, what), 2000, 1, 2, 2);
        // All but one bring 1000 by the hour, with BASE; the other one 1 less: in 11999986, or, just better, in 11999987.
        told("just more", x -> {
            for (int t = 0; t < 10; t++) {
                x.thing(999999000, TIME);
            }
            x.thing(999996999, TIME - 2);
            x.thing(999997999, TIME - 1);
            x.alter(-1, 0, 999999000);
            x.alter(-1, 1, TIME);
        }, (x, what) -> x.load(11, what), 11999986999L, 11999987, 1023 + 2048, 2);
        told("least", x -> {
            for (int t = 0; t < 12; t++) {
                x.thing(-GAIN, 1);
            }
            x.alter(-1, 0, -GAIN);
        }, (x, what) -> x.load(12, what), -GAIN, 1, 4095, 1);
        RoundsPerHour one = made(Edge::rich);
        due("STEPS", one.load(2, 3), 2);
        due("STEPS again", one.load(2, 3), 2);
        due("of all", one.load(3, 2), 7);
        due("of two again", one.load(2, 2), 5);
        due("of one", one.load(1, 2), 1);
    }

    private static void loadBeyond() {
        sentence(21, "BEYOND: what, k");
        for (int what : new int[] {-1, 4, LEAST, MOST}) {
            refused("load(1, " + what + ")", L_BEYOND, x -> x.load(1, what));
        }
        for (int k : new int[] {0, 4, -1, LEAST, MOST}) {
            for (int what = 0; what < 4; what++) {
                int which = what;
                refused("load(" + k + ", " + what + ")", L_BEYOND, x -> x.load(k, which));
            }
        }
        refused("13 of 12", L_BEYOND, Edge::full, x -> x.load(13, 0));
        refused("1 of none", L_BEYOND, Edge::bare, x -> x.load(1, 0));
        refused("0 of none", L_BEYOND, Edge::bare, x -> x.load(0, 0));
    }

    private static void judged(String what, Make ready, int sort, int set, long above, long below) {
        asked(what + ", above", above, ready, x -> x.ratio(sort, set, 0));
        asked(what + ", below", below, ready, x -> x.ratio(sort, set, 1));
    }

    private static void judgeTold() {
        sentence(22, "THE JUDGE: RATIO of the CHOICE that is this set (sort 0 RING, 1 TREE, 2 LOAD of as many as it has): what 0 above, 1 below the line");
        judged("a RING of two", Edge::rich, 0, 3, 9, 2);
        judged("a RING of three", Edge::rich, 0, 13, 98, 25);
        // In weather 5: 10, 4, -13, 21, -22, 15 in 1, 3, 8, 5, 20, 8.
        judged("a RING of six", Edge::full, 0, 63, 1, 3);
        // WAYS 2 to 5, 12, 13: the last two bring 22 and 16 in 13 and 15: 39 in 69.
        judged("a RING with the last WAYS", Edge::full, 0, 63 - 3 + (3 << 12), 13, 23);
        judged("a RING of most", x -> {
            row(5, GAIN, TIME).on(x);
            x.way(5, 5, 0, GAIN, TIME);
        }, 0, 63, 15873016, 15873);
        judged("a TREE of most", row(5, GAIN, TIME), 1, 31, 15873016, 15873);
        judged("a LOAD of most", x -> {
            for (int t = 0; t < 12; t++) {
                x.thing(GAIN, TIME);
            }
            x.alter(-1, 0, GAIN);
            x.alter(-1, 1, TIME);
        }, 2, 4095, 1001001, 1001);
        judged("a TREE, not a BEST one", ClimbsEdges::woods, 1, 58, 3, 4);
        judged("a TREE", ClimbsEdges::woods, 1, 53, 89, 21);
        judged("a TREE of one", x -> x.way(0, 1, 0, 6, 4), 1, 1, 3, 2);
        // Without WAY 5: 0 in 37.
        judged("a TREE of five", Edge::full, 1, 31, 0, 1);
        judged("a LOAD of one", Edge::rich, 2, 2, 2, 3);
        judged("a LOAD of two", Edge::rich, 2, 6, 8, 5);
        judged("a LOAD of all", Edge::rich, 2, 7, 19, 10);
        // 20 to 31 in 2 to 13, and BASE 0 in 1: 306 in 91.
        judged("a LOAD of twelve", Edge::full, 2, 4095, 306, 91);
        // 31 in 13, and BASE.
        judged("a LOAD of the last one", Edge::full, 2, 2048, 31, 14);
        judged("nothing brought", x -> x.thing(0, TIME), 2, 1, 0, 1);
    }

    private static void judgeBeyond() {
        sentence(22, "BEYOND: sort, what");
        for (int sort : new int[] {-1, 3, LEAST, MOST}) {
            refused("ratio(" + sort + ", 3, 0)", L_BEYOND, x -> x.ratio(sort, 3, 0));
            refused("ahead of STATE, ratio(" + sort + ", 0, 0)", L_BEYOND, x -> x.ratio(sort, 0, 0));
        }
        for (int what : new int[] {-1, 2, 3, LEAST, MOST}) {
            for (int sort = 0; sort < 3; sort++) {
                int which = sort;
                refused("ratio(" + sort + ", 3, " + what + ")", L_BEYOND, x -> x.ratio(which, 3, what));
                refused("ahead of STATE, ratio(" + sort + ", 0, " + what + ")", L_BEYOND, x -> x.ratio(which, 0, what));
            }
        }
    }

    private static void noChoice(String what, Make ready, int sort, int... sets) {
        for (int set : sets) {
            refused(what + ", above, " + set, L_STATE, ready, x -> x.ratio(sort, set, 0));
            refused(what + ", below, " + set, L_STATE, ready, x -> x.ratio(sort, set, 1));
        }
    }

    private static void judgeState() {
        sentence(22, "STATE: the set is no such CHOICE (also a LOAD of none)");
        for (int sort = 0; sort < 3; sort++) {
            noChoice("nothing there, sort " + sort, Edge::bare, sort, 0, 1, -1, LEAST, MOST);
            noChoice("none, or what isn't there, sort " + sort, ClimbsEdges::woods, sort, 0, -1, LEAST, MOST, 1 << 30, 1 << 14, LEAST + 3);
        }
        // WAYS 0 and 1 are a RING, 0, 2, 3 another one; 5 such bits, and those of no WAYS.
        noChoice("a RING and more", Edge::rich, 0, 3 + 4, 3 + 8, 13 + 2, 15, 3 + 32, 3 + (1 << 31), 3 + (1 << 14), 13 + 32);
        noChoice("less than a RING", Edge::rich, 0, 1, 2, 5, 9, 12);
        noChoice("a RING that is SHUT", x -> {
            rich(x);
            x.change(2, 5, 1);
        }, 0, 13);
        // Two RINGS through place 0; a RING that WAY 4 leads to; two RINGS that are apart.
        Make rings = x -> {
            x.places(6);
            x.way(0, 0, 1, 1, 1);
            x.way(0, 1, 0, 1, 1);
            x.way(0, 0, 2, 1, 1);
            x.way(0, 2, 0, 1, 1);
            x.way(0, 5, 0, 1, 1);
            x.way(0, 3, 4, 1, 1);
            x.way(0, 4, 3, 1, 1);
            x.way(0, 0, 5, 1, 1);
        };
        noChoice("through a PLACE twice", rings, 0, 15);
        noChoice("one leads to it", rings, 0, 3 + 16, 12 + 16);
        noChoice("one leads from it", rings, 0, 3 + 128);
        noChoice("the first one leads to it", x -> {
            x.places(3);
            x.way(0, 0, 1, 1, 1);
            x.way(0, 1, 2, 1, 1);
            x.way(0, 2, 1, 1, 1);
        }, 0, 7);
        noChoice("two that are apart", rings, 0, 3 + 96, 12 + 96);
        noChoice("both go there", Edge::full, 0, 1 + 64, 63 + 64);
        noChoice("a TREE and more", ClimbsEdges::woods, 1, 53 + 2, 53 + 8, 63, 53 + 64, 53 + (1 << 31));
        noChoice("less than a TREE", ClimbsEdges::woods, 1, 52, 37, 21, 49);
        noChoice("as many as a TREE, but not all are joined", ClimbsEdges::woods, 1, 1 + 2 + 16 + 32, 1 + 4 + 8 + 32, 1 + 4 + 8 + 16);
        noChoice("as many as a TREE, one isn't there", ClimbsEdges::woods, 1, 21 + 64, 21 + (1 << 31));
        noChoice("a TREE that is SHUT", x -> {
            woods(x);
            x.change(5, 5, 1);
        }, 1, 53);
        noChoice("a LOAD of what isn't there", Edge::rich, 2, 8, 9, 15, 7 + (1 << 31), 7 + (1 << 12));
        noChoice("a LOAD of a 13th", Edge::full, 2, 4096, 4095 + 4096);
    }
}
