/** What the terms say, at its edges (but for texts, of which TextEdges asks). */
final class TermsEdges extends Edge {
    private TermsEdges() { }

    static void all() {
        findings();
        order();
        leastNumber();
        places();
        weather();
        ways();
        brings();
        lasts();
        things();
        base();
        rings();
        trees();
        walks();
        loads();
        ratios();
        best();
        lowestTerms();
        climb();
        steps();
        lift();
        sheets();
        fractions();
        whats();
        fractionPlaces();
    }

    private static void findings() {
        sentence(0, "FINDINGS are answers below -4000000000000000000 (of longs) or below -2000000000 (of ints): LOW is -4000000000000000001, or -2000000001; "
                + "LOW BEYOND, LOW - 1 FULL, LOW - 2 KIND, LOW - 3 NONE, LOW - 4 STATE, LOW - 5 MISSING, LOW - 6 SIZE, LOW - 7 NOUGHT, LOW - 8 OVER");
        refused("BEYOND", -2000000001, x -> x.places(1));
        refused("FULL", -2000000002, Edge::full, x -> x.thing(1, 1));
        refused("KIND", -2000000003, x -> x.as(0, 5));
        refused("NONE", -2000000004, Edge::bare, x -> x.undo());
        refused("STATE", -2000000005, x -> x.places(3));
        refused("MISSING", -2000000006, x -> x.lays(3));
        refused("SIZE", -2000000007, x -> x.sheet(0, 16, -1));
        refused("NOUGHT", -2000000008, x -> x.compare(0, 2, 2));
        refused("OVER", -2000000009, x -> {
            rich(x);
            x.write(0, 3, MAX);
        }, x -> x.compare(0, 2, 2));
        refused("BEYOND of longs", -4000000000000000001L, x -> x.ring(2));
        refused("NONE of longs", -4000000000000000004L, x -> x.tree(0));
        refused("STATE of longs", -4000000000000000005L, x -> x.ratio(0, 0, 0));
        refused("MISSING of longs", -4000000000000000006L, x -> x.read(3, 0));
        refused("NOUGHT of longs", -4000000000000000008L, x -> x.reduce(0, 2));
        refused("OVER of longs", -4000000000000000009L, x -> x.worth(MAX));
        // The least answers that are none.
        asked("of ints", -1000000035, x -> {
            x.weather(5);
            x.way(4, 0, 1, -GAIN, 1);
        }, x -> x.of(0, 6));
        asked("of longs", -4000000000000000000L, x -> {
            x.way(0, 0, 1, 1, 1);
            x.way(0, 1, 0, 1, 1);
        }, x -> x.worth(-4000000000000000000L));
    }

    private static void order() {
        sentence(0, "Each act tells its findings in the order in which they are asked (that of its words); one that answers a finding changes nothing but status()");
        refused("places: BEYOND, STATE", BEYOND, x -> x.places(1));
        refused("way: BEYOND, FULL", BEYOND, Edge::full, x -> x.way(0, 1, 1, 0, 1));
        refused("thing: BEYOND, FULL", BEYOND, Edge::full, x -> x.thing(0, 0));
        refused("feed: BEYOND, FULL", BEYOND, Edge::full, x -> x.feed(0, 5));
        refused("ring: BEYOND, NONE", L_BEYOND, Edge::bare, x -> x.ring(2));
        refused("lift: BEYOND, NONE", L_BEYOND, Edge::bare, x -> x.lift(0, 2));
        refused("raise: BEYOND, NONE", BEYOND, Edge::bare, x -> x.raise(0));
        refused("kind: BEYOND, NONE", BEYOND, Edge::bare, x -> x.kind(0));
        refused("tree: BEYOND, NONE", L_BEYOND, Edge::bare, x -> x.tree(4));
        refused("walk: BEYOND, NONE", L_BEYOND, Edge::bare, x -> x.walk(0, 1, 4));
        refused("ratio: BEYOND, STATE", L_BEYOND, x -> x.ratio(0, 0, 2));
        refused("compare: MISSING, BEYOND", MISSING, x -> x.compare(3, -1, 0));
        refused("compare: BEYOND, NOUGHT", BEYOND, x -> x.compare(0, 2, 6));
        refused("compare: NOUGHT, OVER", NOUGHT, x -> {
            rich(x);
            x.write(0, 5, MAX);
        }, x -> x.compare(0, 2, 4));
        refused("reduce: MISSING, BEYOND", L_MISSING, x -> x.reduce(3, -1));
        refused("reduce: NOUGHT, OVER", L_NOUGHT, x -> row(x, 0, 64, MIN, 0), x -> x.reduce(0, 0));
        refused("add: MISSING, BEYOND", MISSING, x -> x.add(3, -1, 0));
        refused("add: BEYOND, NOUGHT", BEYOND, x -> x.add(0, 2, 6));
        refused("add: NOUGHT, OVER", NOUGHT, x -> {
            rich(x);
            x.write(0, 5, MAX);
        }, x -> x.add(0, 2, 4));
        refused("sheet: BEYOND, SIZE", BEYOND, x -> x.sheet(0, 8, -1));
        refused("write: MISSING, BEYOND", MISSING, x -> x.write(3, -1, 0));
        refused("read: MISSING, BEYOND", L_MISSING, x -> x.read(3, -1));
        refused("copy: BEYOND, MISSING", BEYOND, x -> x.copy(3, 0, 4, 0, 0));
        refused("copy: MISSING, KIND", MISSING, x -> x.copy(0, 0, 3, 0, 0));
        refused("copy: MISSING, BEYOND", MISSING, x -> x.copy(0, -1, 3, 0, 0));
        refused("copy: KIND, BEYOND", KIND, x -> x.copy(0, -1, 1, 0, 0));
        // Each act once: what it changes when it is not refused, it leaves.
        refused("weather", BEYOND, x -> x.weather(6));
        refused("change", BEYOND, x -> x.change(0, 3, GAIN + 1));
        refused("alter", BEYOND, x -> x.alter(0, 0, GAIN + 1));
        refused("lays", MISSING, x -> x.lays(3));
        refused("undo", NONE, x -> {
            rich(x);
            x.tear();
        }, x -> x.undo());
    }

    private static void leastNumber() {
        sentence(0, "Sets are told as bits; of several that would do the least number counts, where nothing else is told");
        answers("a set of the first", 1, x -> x.way(0, 0, 1, 1, 1), x -> x.tree(2));
        Make last = x -> {
            for (int w = 0; w < 14; w++) {
                x.way(0, 0, 1, w < 13 ? 0 : 1, 1);
            }
        };
        answers("a set of the last", 1 << 13, last, x -> x.tree(2));
        answers("a WALK of the last", 1 << 13, last, x -> x.walk(0, 1, 2));
        Make alike = x -> {
            x.places(3);
            for (int w = 0; w < 14; w++) {
                x.way(0, w % 3, (w + 1) % 3, 1, 1);
            }
            for (int t = 0; t < 12; t++) {
                x.thing(1, 1);
            }
        };
        answers("all in RINGS", (1 << 14) - 1, alike, x -> x.ringWays());
        answers("least TREE", 3, alike, x -> x.tree(2));
        answers("least WALK", 3, alike, x -> x.walk(0, 2, 2));
        answers("least LOAD", 15, alike, x -> x.load(4, 2));
        answers("least WAY", 0, alike, x -> x.lose());
        answers("least WEATHER", 0, alike, x -> x.season());
        answers("least KIND", 0, x -> {
            alike.on(x);
            x.weather(1);
        }, x -> x.kind(13));
        // A set with one high bit is a greater number than one of many low ones.
        answers("many low bits", 31, x -> {
            x.places(6);
            for (int p = 0; p < 5; p++) {
                x.way(0, p, p + 1, 1, 1);
            }
            x.way(0, 0, 5, 1, 1);
        }, x -> x.walk(0, 5, 2));
    }

    private static void places() {
        sentence(0, "PLACES: 0, 1, .. so many (2 to 6; 2 at first)");
        answers("at first", 2, Edge::bare, x -> x.count(0));
        for (int v = 2; v <= 6; v++) {
            int places = v;
            Make ready = x -> x.places(places);
            answers("the last of " + v, 0, ready, x -> x.way(0, places - 1, 0, 0, 1));
            answers("the first of " + v, 0, ready, x -> x.way(0, 0, places - 1, 0, 1));
            refused("none behind the last of " + v, BEYOND, ready, x -> x.way(0, places, 0, 0, 1));
            refused("none ahead of the first of " + v, BEYOND, ready, x -> x.way(0, -1, 0, 0, 1));
        }
        refused("1", BEYOND, x -> x.places(1));
        refused("7", BEYOND, x -> x.places(7));
    }

    private static void weather() {
        sentence(0, "WEATHER (0 to 5; 0 at first)");
        answers("at first", 0, Edge::bare, x -> x.count(4));
        answers("5", 0, Edge::bare, x -> x.weather(5));
        answers("0", 0, Edge::bare, x -> x.weather(0));
        refused("-1", BEYOND, x -> x.weather(-1));
        refused("6", BEYOND, x -> x.weather(6));
    }

    private static void ways() {
        sentence(0, "WAYS 0, 1, .. (at most 14), of KINDS: 0 WAY; 1 TOLL, 2 FORD, 5 STAIR under WAY; 3 BRIDGE under TOLL; 4 MIRE under FORD; "
                + "each FROM a PLACE TO another one, with GAIN (-999999999 to 999999999), TIME (1 to 999999), SHUT or not (1, 0; 0 at first)");
        RoundsPerHour x = new RoundsPerHour();
        for (int w = 0; w < 14; w++) {
            due("number " + w, x.way(w % 6, w % 2, 1 - w % 2, w, 1), w);
            due("not SHUT at first", x.of(w, 5), 0);
        }
        due("a 15th", x.way(0, 0, 1, 0, 1), FULL);
        // Of each KIND: those it counts as.
        String[] under = {"0", "01", "02", "013", "024", "05"};
        for (int k = 0; k < 6; k++) {
            for (int other = 0; other < 6; other++) {
                due("kind " + k + " as " + other, x.as(k, other), under[k].indexOf('0' + other) >= 0 ? k : KIND);
            }
        }
        due("kind 6", x.change(0, 0, 6), BEYOND);
        due("kind -1", x.change(0, 0, -1), BEYOND);
        due("FROM as TO", x.change(0, 1, 1), BEYOND);
        for (int gain : new int[] {-GAIN, GAIN}) {
            due("gain " + gain, x.change(0, 3, gain) <= -2000000000 ? 1 : 0, 0);
            due("gain beyond", x.change(0, 3, gain < 0 ? gain - 1 : gain + 1), BEYOND);
            due("it stays", x.of(0, 3), gain);
        }
        due("time 1", x.change(0, 4, 1), 1);
        due("time 0", x.change(0, 4, 0), BEYOND);
        due("time 999999", x.change(0, 4, 999999), 1);
        due("time 1000000", x.change(0, 4, 1000000), BEYOND);
        due("SHUT", x.change(0, 5, 1), 0);
        due("not SHUT", x.change(0, 5, 0), 1);
        due("neither", x.change(0, 5, 2), BEYOND);
        due("neither, below", x.change(0, 5, -1), BEYOND);
    }

    // In each WEATHER, what a WAY of this KIND brings more than its GAIN; with the ends of GAIN.
    private static void bringsMore(String words, int kind, int... more) {
        sentence(0, words);
        for (int v = 0; v < 6; v++) {
            int weather = v;
            for (int gain : new int[] {-GAIN, -1, 0, 1, GAIN}) {
                answers("weather " + v + ", gain " + gain, gain + more[v], x -> {
                    x.weather(weather);
                    x.way(kind, 0, 1, gain, 7);
                }, x -> x.of(0, 6));
            }
        }
    }

    private static void brings() {
        bringsMore("BRINGS: WAY: GAIN", 0, 0, 0, 0, 0, 0, 0);
        bringsMore("TOLL: as a WAY, less 7", 1, -7, -7, -7, -7, -7, -7);
        bringsMore("FORD: as a WAY, less 5 times WEATHER", 2, 0, -5, -10, -15, -20, -25);
        bringsMore("BRIDGE: as a TOLL, and 3 times WEATHER", 3, -7, -4, -1, 2, 5, 8);
        bringsMore("MIRE: as a FORD, less 11", 4, -11, -16, -21, -26, -31, -36);
        bringsMore("STAIR: as a WAY, and 9, if WEATHER is even", 5, 9, 0, 9, 0, 9, 0);
    }

    // In each WEATHER, how long a WAY of this KIND lasts, of TIME 1, 10 and 999999.
    private static void lastsSo(String words, int kind, int[] least, int[] ten, int[] most) {
        sentence(0, words);
        int[][] want = {least, ten, most};
        int[] times = {1, 10, TIME};
        for (int v = 0; v < 6; v++) {
            int weather = v;
            for (int i = 0; i < 3; i++) {
                int time = times[i];
                answers("weather " + v + ", time " + time, want[i][v], x -> {
                    x.weather(weather);
                    x.way(kind, 0, 1, 5, time);
                }, x -> x.of(0, 7));
            }
        }
    }

    private static int[] six(int... v) {
        return v;
    }

    private static void lasts() {
        lastsSo("LASTS: WAY: TIME", 0, six(1, 1, 1, 1, 1, 1), six(10, 10, 10, 10, 10, 10), six(TIME, TIME, TIME, TIME, TIME, TIME));
        lastsSo("TOLL: as a WAY, and 1", 1, six(2, 2, 2, 2, 2, 2), six(11, 11, 11, 11, 11, 11), six(1000000, 1000000, 1000000, 1000000, 1000000, 1000000));
        lastsSo("FORD: as a WAY, and WEATHER", 2, six(1, 2, 3, 4, 5, 6), six(10, 11, 12, 13, 14, 15), six(999999, 1000000, 1000001, 1000002, 1000003, 1000004));
        lastsSo("BRIDGE: as a TOLL", 3, six(2, 2, 2, 2, 2, 2), six(11, 11, 11, 11, 11, 11), six(1000000, 1000000, 1000000, 1000000, 1000000, 1000000));
        lastsSo("MIRE: twice a FORD's", 4, six(2, 4, 6, 8, 10, 12), six(20, 22, 24, 26, 28, 30), six(1999998, 2000000, 2000002, 2000004, 2000006, 2000008));
        lastsSo("STAIR: as a WAY, and 2, if WEATHER is above 3", 5, six(1, 1, 1, 1, 3, 3), six(10, 10, 10, 10, 12, 12), six(TIME, TIME, TIME, TIME, 1000001, 1000001));
    }

    private static void things() {
        sentence(0, "THINGS 0, 1, .. (at most 12), each with GAIN and TIME (as of WAYS)");
        RoundsPerHour x = new RoundsPerHour();
        for (int t = 0; t < 12; t++) {
            due("number " + t, x.thing(t % 2 == 0 ? -GAIN : GAIN, t % 2 == 0 ? 1 : TIME), t);
        }
        refused("a 13th", FULL, Edge::full, y -> y.thing(0, 1));
        refused("gain beyond", BEYOND, y -> y.thing(GAIN + 1, 1));
        refused("gain below", BEYOND, y -> y.thing(-GAIN - 1, 1));
        refused("time beyond", BEYOND, y -> y.thing(0, TIME + 1));
        refused("time below", BEYOND, y -> y.thing(0, 0));
    }

    private static void base() {
        sentence(0, "BASE: a GAIN and a TIME (likewise; 0 and 1 at first)");
        answers("GAIN at first", 0, Edge::bare, x -> x.its(-1, 0));
        answers("TIME at first", 1, Edge::bare, x -> x.its(-1, 1));
        for (int gain : new int[] {-GAIN, GAIN}) {
            answers("gain " + gain, 0, Edge::bare, x -> x.alter(-1, 0, gain));
        }
        answers("time 1", 1, Edge::bare, x -> x.alter(-1, 1, 1));
        answers("time 999999", 1, Edge::bare, x -> x.alter(-1, 1, TIME));
        refused("gain beyond", BEYOND, x -> x.alter(-1, 0, GAIN + 1));
        refused("gain below", BEYOND, x -> x.alter(-1, 0, -GAIN - 1));
        refused("time beyond", BEYOND, x -> x.alter(-1, 1, TIME + 1));
        refused("time below", BEYOND, x -> x.alter(-1, 1, 0));
    }

    private static void rings() {
        sentence(0, "CHOICES (of WAYS that aren't SHUT, or of THINGS), each a set: a RING: WAYS, each FROM where another one of them goes TO, "
                + "which lead round through no PLACE twice, back to where one begins");
        Make two = x -> {
            x.way(0, 0, 1, 2, 1);
            x.way(0, 1, 0, 2, 1);
        };
        answers("fewest", 2, two, x -> x.ratio(0, 3, 0));
        answers("one is none", L_STATE, two, x -> x.ratio(0, 1, 0));
        answers("none is none", L_STATE, two, x -> x.ratio(0, 0, 0));
        // Through 0 twice it would bring 102 in 4 for 25 and a half; each of both alone brings less than the other.
        Make eight = x -> {
            x.places(3);
            x.way(0, 0, 1, 1, 1);
            x.way(0, 1, 0, 1, 1);
            x.way(0, 0, 2, 50, 1);
            x.way(0, 2, 0, 50, 1);
        };
        answers("through a PLACE twice", L_STATE, eight, x -> x.ratio(0, 15, 0));
        answers("only one of both is BEST", 12, eight, x -> x.ringWays());
        answers("SHUT", L_STATE, x -> {
            two.on(x);
            x.change(0, 5, 1);
        }, x -> x.ratio(0, 3, 0));
        Make six = x -> {
            x.places(6);
            for (int p = 0; p < 6; p++) {
                x.way(0, (6 - p) % 6, 5 - p, 7, 1);
            }
        };
        answers("most", 63, six, x -> x.ringWays());
        answers("most, its RATIO", 7, six, x -> x.ratio(0, 63, 0));
        answers("not that way round", L_NONE, x -> {
            six.on(x);
            x.change(3, 1, 1);
            x.change(3, 2, 3);
        }, x -> x.ring(0));
    }

    private static void trees() {
        sentence(0, "A TREE: WAYS (whichever way they go) that join all PLACES, as few as can do that");
        Make star = x -> {
            x.places(6);
            x.way(0, 0, 1, 1, 1);
            x.way(0, 2, 0, 1, 1);
            x.way(0, 0, 3, 1, 1);
            x.way(0, 4, 0, 1, 1);
            x.way(0, 0, 5, 1, 1);
            x.way(0, 5, 0, 90, 1);
        };
        answers("whichever way", 1, star, x -> x.ratio(1, 31, 0));
        answers("with the better of two", 47, star, x -> x.tree(2));
        answers("not both", L_STATE, star, x -> x.ratio(1, 63, 0));
        answers("not all joined", L_STATE, star, x -> x.ratio(1, 15, 0));
        answers("not all joined, though as many", L_STATE, star, x -> x.ratio(1, 48 + 7, 0));
        answers("SHUT", L_NONE, x -> {
            star.on(x);
            x.change(2, 5, 1);
        }, x -> x.tree(0));
        answers("of two PLACES one WAY", 2, x -> {
            x.way(0, 0, 1, 1, 1);
            x.way(0, 1, 0, 3, 1);
        }, x -> x.tree(2));
    }

    private static void walks() {
        sentence(0, "A WALK (from a PLACE to one of a greater number): WAYS, each FROM where the one ahead goes TO, each TO a greater number than it is FROM");
        // To 3 by 1, by 2, at once, and by 2 and 1, which falls.
        Make many = x -> {
            x.places(4);
            x.way(0, 0, 1, 1, 1);
            x.way(0, 1, 3, 1, 1);
            x.way(0, 0, 2, 2, 1);
            x.way(0, 2, 3, 2, 1);
            x.way(0, 0, 3, 1, 2);
            x.way(0, 2, 1, 999, 1);
            x.way(0, 3, 0, 999, 1);
        };
        answers("by 2", 12, many, x -> x.walk(0, 3, 2));
        answers("by 1", 3, x -> {
            many.on(x);
            x.change(2, 5, 1);
        }, x -> x.walk(0, 3, 2));
        answers("at once", 16, x -> {
            many.on(x);
            x.change(1, 5, 1);
            x.change(3, 5, 1);
        }, x -> x.walk(0, 3, 2));
        answers("one WAY", 4, many, x -> x.walk(0, 2, 2));
        answers("it doesn't fall", L_NONE, many, x -> x.walk(1, 2, 2));
        answers("not back", L_BEYOND, many, x -> x.walk(3, 0, 2));
        answers("not round", L_BEYOND, many, x -> x.walk(0, 0, 2));
    }

    private static void loads() {
        sentence(0, "A LOAD (of k): k THINGS");
        Make twelve = x -> {
            for (int t = 0; t < 12; t++) {
                x.thing(-t, 1);
            }
        };
        for (int k = 1; k <= 12; k++) {
            int load = k;
            answers("of " + k, (1 << k) - 1, twelve, x -> x.load(load, 2));
        }
        answers("of 13", L_BEYOND, twelve, x -> x.load(13, 2));
        answers("of none", L_BEYOND, twelve, x -> x.load(0, 2));
        answers("of none, judged", L_STATE, twelve, x -> x.ratio(2, 0, 0));
    }

    private static void ratios() {
        sentence(0, "RATIO of a CHOICE: what its WAYS BRING, together, by what they LAST; of a LOAD the GAIN of THINGS and BASE by the TIME of THINGS and BASE");
        // In weather 3 a BRIDGE of 40 in 5 brings 42 in 6.
        answers("of a RING, above", 9, Edge::rich, x -> x.ratio(0, 3, 0));
        answers("of a RING, below", 2, Edge::rich, x -> x.ratio(0, 3, 1));
        Make tree = x -> {
            x.weather(4);
            x.way(4, 0, 1, 100, 3);
        };
        // 100 - 20 - 11 in 14.
        answers("of a TREE, above", 69, tree, x -> x.ratio(1, 1, 0));
        answers("of a TREE, below", 14, tree, x -> x.ratio(1, 1, 1));
        answers("of a WALK, above", 69, tree, x -> x.walk(0, 1, 0));
        answers("of a WALK, below", 14, tree, x -> x.walk(0, 1, 1));
        Make load = x -> {
            x.thing(-GAIN, TIME);
            x.thing(5, 2);
            x.alter(-1, 0, GAIN);
            x.alter(-1, 1, TIME);
        };
        answers("of a LOAD, above", 0, load, x -> x.ratio(2, 1, 0));
        answers("of a LOAD, below", 1, load, x -> x.ratio(2, 1, 1));
        answers("of both, above", 1, load, x -> x.ratio(2, 3, 0));
        answers("of both, below", 400000, load, x -> x.ratio(2, 3, 1));
        answers("weather is no matter to a LOAD", 400000, x -> {
            load.on(x);
            x.weather(5);
        }, x -> x.load(2, 1));
    }

    private static void best() {
        sentence(0, "BEST is a CHOICE (of one sort) whose RATIO is greatest");
        // Not what brings most in all: 100 in 50, 3 in 1.
        Make most = x -> {
            x.way(0, 0, 1, 100, 50);
            x.way(0, 0, 1, 3, 1);
            x.way(0, 1, 0, 0, 1);
            x.thing(100, 50);
            x.thing(3, 1);
        };
        answers("RINGS", 5, most, x -> x.ringWays());
        answers("TREES", 2, most, x -> x.tree(2));
        answers("WALKS", 2, most, x -> x.walk(0, 1, 2));
        answers("LOADS", 1, most, x -> x.load(1, 2));
        answers("RATIO of TREES", 3, most, x -> x.tree(0));
        // Of losses the one that lasts longest.
        Make least = x -> {
            x.way(0, 0, 1, -5, 1);
            x.way(0, 0, 1, -6, 2);
            x.way(0, 1, 0, 0, 1);
            x.thing(-5, 1);
            x.thing(-6, 2);
        };
        answers("RINGS that lose", 6, least, x -> x.ringWays());
        answers("TREES that lose nothing", 4, least, x -> x.tree(2));
        answers("WALKS that lose", 2, least, x -> x.walk(0, 1, 2));
        answers("LOADS that lose", 2, least, x -> x.load(1, 2));
    }

    private static void lowestTerms() {
        sentence(0, "A RATIO is told in lowest terms (the number below is above 0; 0 is 0 by 1)");
        int[][] ratios = {{6, 4, 3, 2}, {-6, 4, -3, 2}, {0, TIME, 0, 1}, {0, 1, 0, 1}, {GAIN, 1, GAIN, 1}, {-GAIN, 1, -GAIN, 1},
            {GAIN, TIME, 1001001, 1001}, {-GAIN, TIME, -1001001, 1001}, {1, TIME, 1, TIME}, {-1, TIME, -1, TIME}, {TIME, TIME, 1, 1}, {-TIME, TIME, -1, 1}};
        for (int[] v : ratios) {
            Make ready = x -> x.way(0, 0, 1, v[0], v[1]);
            answers(v[0] + " in " + v[1] + ", above", v[2], ready, x -> x.tree(0));
            answers(v[0] + " in " + v[1] + ", below", v[3], ready, x -> x.tree(1));
            answers(v[0] + " in " + v[1] + ", judged above", v[2], ready, x -> x.ratio(1, 1, 0));
            answers(v[0] + " in " + v[1] + ", judged below", v[3], ready, x -> x.ratio(1, 1, 1));
            answers(v[0] + " in " + v[1] + ", a WALK, above", v[2], ready, x -> x.walk(0, 1, 0));
            answers(v[0] + " in " + v[1] + ", a WALK, below", v[3], ready, x -> x.walk(0, 1, 1));
        }
    }

    private static Make oneWays(int... gainsAndTimes) {
        return x -> {
            for (int i = 0; i < gainsAndTimes.length; i += 2) {
                x.way(0, 0, 1, gainsAndTimes[i], gainsAndTimes[i + 1]);
                x.thing(gainsAndTimes[i], gainsAndTimes[i + 1]);
            }
        };
    }

    private static void climbed(String what, Make ready, int steps, int best) {
        answers(what + ": STEPS to a TREE", steps, ready, x -> x.tree(3));
        answers(what + ": the TREE", best, ready, x -> x.tree(2));
        answers(what + ": STEPS to a WALK", steps, ready, x -> x.walk(0, 1, 3));
        answers(what + ": the WALK", best, ready, x -> x.walk(0, 1, 2));
    }

    private static void climb() {
        sentence(0, "CLIMB (to the BEST of TREES, WALKS, LOADS): it begins with the least CHOICE; each next one is that of which the sum above, "
                + "less the RATIO of the one ahead times the sum below, is greatest (of several the least), as long as its RATIO is greater than that of the one ahead");
        climbed("it begins with the BEST one", oneWays(5, 1, 1, 1, 4, 1), 1, 1);
        climbed("one that is as good is not gone to", oneWays(2, 1, 4, 2, 6, 3), 1, 1);
        // From 0 in 1 both 4 in 2 and 4 in 1 are 4: the least of them is gone to, then the other one.
        climbed("of several the least", oneWays(0, 1, 4, 2, 4, 1), 3, 4);
        climbed("of several the least, which is BEST", oneWays(0, 1, 4, 1, 4, 2), 2, 2);
        // From 1 in 10 to 60 in 100 (54, against 4.8), then to 5 in 2.
        climbed("not the greatest RATIO at once", oneWays(1, 10, 60, 100, 5, 2), 3, 4);
        // From 1 in 1 both 4 in 2 and 6 in 3, of as great a RATIO: 2 and 3; the least BEST one is told.
        climbed("where it ends, another one is as good", oneWays(1, 1, 4, 2, 6, 3), 2, 2);
        climbed("losses", oneWays(-5, 1, -6, 2, -7, 7), 2, 4);
        // Of LOADS BASE counts, too: 2, 6, 8 in 2, 3, 4 with 1 in 1.
        Make loads = x -> {
            oneWays(1, 1, 5, 2, 7, 3).on(x);
            x.alter(-1, 0, 1);
        };
        answers("of LOADS, STEPS", 2, loads, x -> x.load(1, 3));
        answers("of LOADS, the least BEST", 2, loads, x -> x.load(1, 2));
        answers("of LOADS, of two", 2, loads, x -> x.load(2, 3));
        answers("of LOADS, of all", 1, loads, x -> x.load(3, 3));
    }

    private static void steps() {
        sentence(0, "STEPS are how many CHOICES it goes through");
        climbed("one alone", oneWays(-5, 7), 1, 1);
        // Way w brings w by the hour and lasts less than half of the one ahead: each is gone through.
        for (int n = 2; n <= 14; n++) {
            int[] v = new int[2 * n];
            for (int w = 0; w < n; w++) {
                v[2 * w + 1] = (1 << (n - w)) - 1;
                v[2 * w] = w * v[2 * w + 1];
            }
            climbed(n + " of them", oneWays(v), n, 1 << (n - 1));
        }
    }

    private static void lift() {
        sentence(0, "LIFT (from a PLACE to one): let a by b be the RATIO of BEST RINGS: the greatest that b times what WAYS BRING, less a times what they LAST, "
                + "can be together, of WAYS that aren't SHUT, one behind the other from that PLACE to this one, any of them as often as one likes, or none, if it is the same");
        // 5 by 3, of WAYS 2, 3, 4; the ways lift by -3, 1, -2, -9, 11, 4, 4.
        Make eight = x -> {
            x.places(5);
            x.way(0, 0, 1, 4, 3);
            x.way(0, 1, 0, 2, 1);
            x.way(0, 0, 2, 1, 1);
            x.way(0, 2, 3, 2, 3);
            x.way(0, 3, 0, 7, 2);
            x.way(0, 3, 4, 3, 1);
            x.way(0, 1, 4, 3, 1);
        };
        answers("lowest terms, above", 5, eight, x -> x.ring(0));
        answers("lowest terms, below", 3, eight, x -> x.ring(1));
        int[][] lifts = {{0, 0, 0}, {4, 4, 0}, {1, 1, 0}, {0, 1, -3}, {1, 0, 1}, {3, 0, 11}, {0, 3, -11}, {3, 2, 9}, {2, 1, -1}, {0, 4, 1}, {3, 4, 12}, {2, 4, 3}};
        for (int[] v : lifts) {
            answers("lift(" + v[0] + ", " + v[1] + ")", v[2], eight, x -> x.lift(v[0], v[1]));
        }
        answers("SHUT", -7, x -> {
            eight.on(x);
            x.change(6, 5, 1);
        }, x -> x.lift(0, 4));
        answers("nothing leads away", L_NONE, eight, x -> x.lift(4, 0));
        // The last WAYS first: five of them, one behind the other, each brings 1 more than the round.
        Make row = x -> {
            x.places(6);
            for (int p = 4; p >= 0; p--) {
                x.way(0, p, p + 1, 2, 1);
            }
            x.way(0, 1, 0, -2, 1);
        };
        answers("as far as can be", 10, row, x -> x.lift(0, 5));
        answers("and with a step back", 8, row, x -> x.lift(1, 5));
        answers("back", -2, row, x -> x.lift(1, 0));
    }

    private static void sheets() {
        sentence(0, "SHEETS 0 to 3: rows of at most 40 numbers of 16, 32 or 64 bits, or MISSING (at first)");
        for (int s = 0; s < 4; s++) {
            int sheet = s;
            answers("at first, sheet " + s, L_MISSING, Edge::bare, x -> x.read(sheet, 0));
            for (int bits : new int[] {16, 32, 64}) {
                answers("forty", 40, Edge::rich, x -> x.sheet(sheet, bits, 40));
                refused("one more", BEYOND, x -> x.sheet(sheet, bits, 41));
                answers("none", 0, Edge::rich, x -> x.sheet(sheet, bits, 0));
                long lowest = -1L << (bits - 1);
                answers("the least number", lowest, x -> row(x, sheet, bits, lowest), x -> x.read(sheet, 0));
                answers("the greatest number", ~lowest, x -> row(x, sheet, bits, ~lowest), x -> x.read(sheet, 0));
            }
        }
        refused("sheet 4", BEYOND, x -> x.sheet(4, 16, 1));
        refused("sheet -1", BEYOND, x -> x.sheet(-1, 16, 1));
        refused("8 bits", BEYOND, x -> x.sheet(0, 8, 1));
        refused("128 bits", BEYOND, x -> x.sheet(0, 128, 1));
    }

    private static void fractions() {
        sentence(0, "A FRACTION of a sheet: the number in a place is above, that in the next place below the line");
        // FRACTIONS 0, 1, 2: 1 by 2, 2 by 3, 3 by 4.
        Make four = x -> row(x, 0, 64, 1, 2, 3, 4);
        for (int i = 0; i < 3; i++) {
            for (int j = 0; j < 3; j++) {
                int first = i;
                int other = j;
                answers("FRACTIONS " + i + " and " + j, Integer.compare(i, j), four, x -> x.compare(0, first, other));
            }
        }
        answers("the last place alone is none", BEYOND, four, x -> x.compare(0, 3, 0));
        RoundsPerHour x = made(y -> row(y, 0, 64, 6, 4, 2, 9));
        due("4 by 2", x.reduce(0, 1), 2);
        due("the one ahead stays", x.read(0, 0), 6);
        due("2", x.read(0, 1), 2);
        due("by 1", x.read(0, 2), 1);
        due("the one behind stays", x.read(0, 3), 9);
    }

    private static void whats() {
        sentence(0, "Ahead of the calls `tree`, `walk`, `load`, `ratio` the interface says: ---- trees, walks, loads: what 0 above, 1 below the line of RATIO of a BEST one, "
                + "2 the least BEST one, as a set, 3 STEPS of the CLIMB");
        // From 0 in 1 to 8 in 4, then to 5 in 2 (1 more than nothing) and to 10 in 4, as good as that.
        Make ready = x -> {
            oneWays(0, 1, 8, 4, 10, 4, 5, 2).on(x);
            x.alter(-1, 0, 0);
        };
        long[] want = {5, 2, 4, 2};
        // With BASE, 0 in 1: 0 in 2, 8 in 5, 10 in 5, 5 in 3.
        long[] load = {2, 1, 4, 2};
        for (int what = 0; what < 4; what++) {
            int which = what;
            answers("tree(" + what + ")", want[what], ready, x -> x.tree(which));
            answers("walk(0, 1, " + what + ")", want[what], ready, x -> x.walk(0, 1, which));
            answers("load(1, " + what + ")", load[what], ready, x -> x.load(1, which));
        }
        answers("ratio, above", 5, ready, x -> x.ratio(1, 8, 0));
        answers("ratio, below", 2, ready, x -> x.ratio(1, 8, 1));
        for (int what : new int[] {-1, 4}) {
            refused("tree(" + what + ")", L_BEYOND, ready, x -> x.tree(what));
            refused("walk(0, 1, " + what + ")", L_BEYOND, ready, x -> x.walk(0, 1, what));
            refused("load(1, " + what + ")", L_BEYOND, ready, x -> x.load(1, what));
        }
        refused("a set is nothing to tell of ratio", L_BEYOND, ready, x -> x.ratio(1, 8, 2));
        refused("nor are STEPS", L_BEYOND, ready, x -> x.ratio(1, 8, 3));
    }

    private static void fractionPlaces() {
        sentence(0, "Ahead of the calls `compare`, `reduce`, `add` the interface says: ---- fractions (of a sheet s, i and j places from 0)");
        Make three = x -> row(x, 2, 16, 4, 2, 1);
        answers("compare, the first place", 0, three, x -> x.compare(2, 0, 0));
        answers("compare, the last place", 0, three, x -> x.compare(2, 1, 1));
        answers("compare, behind it", BEYOND, three, x -> x.compare(2, 2, 0));
        answers("compare, ahead of it", BEYOND, three, x -> x.compare(2, 0, -1));
        answers("reduce, the first place", 2, three, x -> x.reduce(2, 0));
        answers("reduce, the last place", 1, three, x -> x.reduce(2, 1));
        answers("reduce, behind it", L_BEYOND, three, x -> x.reduce(2, 2));
        answers("reduce, ahead of it", L_BEYOND, three, x -> x.reduce(2, -1));
        answers("add, the first place", 1, three, x -> x.add(2, 0, 1));
        answers("add, the last place", 1, three, x -> x.add(2, 1, 0));
        answers("add, behind it", BEYOND, three, x -> x.add(2, 0, 2));
        answers("add, ahead of it", BEYOND, three, x -> x.add(2, -1, 0));
        answers("another sheet", MISSING, three, x -> x.compare(1, 0, 0));
    }
}
