/** Promises 11 to 18 at their edges. */
final class RingsEdges extends Edge {
    private static final String NO_RING = "NONE: there is no RING";

    private RingsEdges() { }

    static void all() {
        ringRatio();
        ringBeyond();
        ringNone();
        ringWaysSet();
        ringWaysNone();
        liftTold();
        liftBeyond();
        liftNone();
        worthTold();
        worthNone();
        worthOver();
        raiseLeast();
        raiseAgain();
        raiseBeyond();
        raiseNone();
        loseTold();
        loseNone();
        kindTold();
        kindAgain();
        kindBeyond();
        kindNone();
        seasonTold();
        seasonAgain();
        seasonNone();
    }

    // Countries without a RING: no WAYS; WAYS that only rise; as many of them as can be; a RING with a SHUT way.
    private static final Make[] RINGLESS = {Edge::bare, x -> x.way(0, 0, 1, 5, 1), x -> {
        x.places(6);
        for (int w = 0; w < 14; w++) {
            x.way(0, w % 5, w % 5 + 1, 1, 1);
        }
    }, x -> {
        x.way(0, 0, 1, 5, 1);
        x.way(0, 1, 0, 5, 1);
        x.change(1, 5, 1);
    }, x -> {
        Edge.rich(x);
        x.change(0, 5, 1);
    }};

    private static void noRing(String what, long finding, Act act) {
        for (int i = 0; i < RINGLESS.length; i++) {
            refused(what + ", ringless country " + i, finding, RINGLESS[i], act);
        }
    }

    // A round of two WAYS, each of this GAIN, that last 1.
    private static Make round(int gain, int other) {
        return x -> {
            x.way(0, 0, 1, gain, 1);
            x.way(0, 1, 0, other, 1);
        };
    }

    // Two rounds through six places that differ in one WAY: 5999992999 in 5999993, and, just more, 5999993999 in 5999994.
    private static void near(RoundsPerHour x) {
        x.places(6);
        for (int p = 0; p < 5; p++) {
            x.way(0, p, p + 1, 999999000, TIME);
        }
        x.way(0, 5, 0, 999997999, TIME - 1);
        x.way(0, 5, 0, 999998999, TIME);
    }

    private static void ringRatio() {
        sentence(11, "RATIO of BEST RINGS: above (what 0), below the line (1)");
        asked("above", 9, Edge::rich, x -> x.ring(0));
        asked("below", 2, Edge::rich, x -> x.ring(1));
        Make highest = x -> {
            x.places(6);
            for (int p = 0; p < 6; p++) {
                x.way(5, p, (p + 1) % 6, GAIN, TIME);
            }
        };
        // Six STAIRS: 6000000048 in 5999994, both by 378.
        answers("most, longest: above", 15873016, highest, x -> x.ring(0));
        answers("most, longest: below", 15873, highest, x -> x.ring(1));
        answers("least: above", -GAIN, round(-GAIN, -GAIN), x -> x.ring(0));
        answers("least: below", 1, round(-GAIN, -GAIN), x -> x.ring(1));
        answers("none: above", 0, round(GAIN, -GAIN), x -> x.ring(0));
        answers("none: below", 1, round(GAIN, -GAIN), x -> x.ring(1));
        answers("just below none: above", -1, round(GAIN - 1, -GAIN), x -> x.ring(0));
        answers("just below none: below", 2, round(GAIN - 1, -GAIN), x -> x.ring(1));
        answers("just the greater one: above", 5999993999L, RingsEdges::near, x -> x.ring(0));
        answers("just the greater one: below", 5999994, RingsEdges::near, x -> x.ring(1));
    }

    private static void ringBeyond() {
        sentence(11, "BEYOND");
        for (int what : new int[] {-1, 2, LEAST, MOST}) {
            refused("ring(" + what + ")", L_BEYOND, x -> x.ring(what));
            refused("ahead of NONE, ring(" + what + ")", L_BEYOND, Edge::bare, x -> x.ring(what));
        }
    }

    private static void ringNone() {
        sentence(11, NO_RING);
        noRing("ring(0)", L_NONE, x -> x.ring(0));
        noRing("ring(1)", L_NONE, x -> x.ring(1));
    }

    private static void ringWaysSet() {
        sentence(12, "All WAYS that are in any BEST RING, as a set");
        asked("ways 0 and 1", 3, Edge::rich, x -> x.ringWays());
        Make alike = x -> {
            for (int w = 0; w < 14; w++) {
                x.way(0, w % 2, 1 - w % 2, 1, 1);
            }
        };
        answers("all", (1 << 14) - 1, alike, x -> x.ringWays());
        answers("the last two", 3 << 12, x -> {
            for (int w = 0; w < 12; w++) {
                x.way(0, 0, 1, 0, 1);
            }
            x.way(0, 0, 1, 5, 1);
            x.way(0, 1, 0, 0, 1);
        }, x -> x.ringWays());
        // 2 in 2 and 4 in 4; then 4 in 5.
        Make two = x -> {
            x.places(3);
            x.way(0, 0, 1, 1, 1);
            x.way(0, 1, 0, 1, 1);
            x.way(0, 0, 2, 3, 2);
            x.way(0, 2, 0, 1, 2);
        };
        answers("as much by the hour, not in all", 15, two, x -> x.ringWays());
        answers("more in all, less by the hour", 3, x -> {
            two.on(x);
            x.change(3, 4, 3);
        }, x -> x.ringWays());
        answers("just the greater one", 95, RingsEdges::near, x -> x.ringWays());
        answers("SHUT", 63, x -> {
            near(x);
            x.change(6, 5, 1);
        }, x -> x.ringWays());
        // 1000000000 in 10 against 5 in 4: what is compared is above 32 bits.
        Make far = x -> {
            x.places(3);
            x.way(0, 0, 1, GAIN, 9);
            x.way(0, 1, 0, 1, 1);
            x.way(0, 0, 2, 5, 3);
            x.way(0, 2, 0, 0, 1);
        };
        answers("far more", 3, far, x -> x.ringWays());
        answers("far less", 12, x -> {
            far.on(x);
            x.change(0, 3, -GAIN);
        }, x -> x.ringWays());
        // What was told of all four is not told of two.
        RoundsPerHour x = made(y -> {
            round(1, 1).on(y);
            round(1, 1).on(y);
        });
        due("four", x.ringWays(), 15);
        x.change(2, 5, 1);
        due("three, and one that is SHUT since", x.ringWays(), 11);
        x.change(3, 5, 1);
        due("two, and two that are SHUT since", x.ringWays(), 3);
    }

    private static void ringWaysNone() {
        sentence(12, NO_RING);
        noRing("ringWays()", NONE, x -> x.ringWays());
    }

    private static void liftTold() {
        sentence(13, "LIFT");
        // 9 by 2: the rich one's ways lift by 30, -30, -20, -39.
        int[][] lifts = {{0, 0, 0}, {0, 1, 30}, {0, 3, 10}, {1, 0, -30}, {1, 1, 0}, {1, 3, -20}, {3, 0, -39}, {3, 1, -9}, {3, 3, 0}, {2, 2, 0}, {4, 4, 0}};
        for (int[] v : lifts) {
            asked("lift(" + v[0] + ", " + v[1] + ")", v[2], Edge::rich, x -> x.lift(v[0], v[1]));
        }
        // One after the other, and once more.
        RoundsPerHour one = made(Edge::rich);
        for (int i = 0; i < 2 * lifts.length; i++) {
            int[] v = lifts[i % lifts.length];
            due("again, lift(" + v[0] + ", " + v[1] + ")", one.lift(v[0], v[1]), v[2]);
        }
        // The round's RATIO is 1000000007 by 2; four MIRES lead from it to the last place, each down by 2000010014000126.
        answers("far down", -8000040056000504L, x -> {
            x.places(6);
            x.weather(5);
            x.way(3, 0, 1, GAIN, 1);
            x.way(3, 1, 0, GAIN, 1);
            for (int p = 1; p < 5; p++) {
                x.way(4, p, p + 1, -GAIN, TIME);
            }
        }, x -> x.lift(0, 5));
        // The round's RATIO is -999999999 by 1: four MIRES, each up by 999999963 and 999999999 times 2000008.
        answers("far up", 8000035991999820L, x -> {
            x.places(6);
            x.weather(5);
            x.way(0, 0, 1, -GAIN, 1);
            x.way(0, 1, 0, -GAIN, 1);
            for (int p = 1; p < 5; p++) {
                x.way(4, p, p + 1, GAIN, TIME);
            }
        }, x -> x.lift(0, 5));
    }

    private static void liftBeyond() {
        sentence(13, "BEYOND");
        for (int p : new int[] {-1, 5, 6, LEAST, MOST}) {
            refused("lift(" + p + ", 0)", L_BEYOND, x -> x.lift(p, 0));
            refused("lift(0, " + p + ")", L_BEYOND, x -> x.lift(0, p));
            refused("lift(" + p + ", " + p + ")", L_BEYOND, x -> x.lift(p, p));
            refused("ahead of NONE, lift(" + p + ", 0)", L_BEYOND, Edge::bare, x -> x.lift(p, 0));
            refused("ahead of NONE, lift(0, " + p + ")", L_BEYOND, Edge::bare, x -> x.lift(0, p));
        }
        refused("lift(6, 0) of 6", L_BEYOND, Edge::full, x -> x.lift(6, 0));
        refused("lift(0, 6) of 6", L_BEYOND, Edge::full, x -> x.lift(0, 6));
        answers("lift(5, 5) of 6", 0, Edge::full, x -> x.lift(5, 5));
    }

    private static void liftNone() {
        sentence(13, "NONE: there is no RING, or no such WAYS");
        noRing("lift(0, 0)", L_NONE, x -> x.lift(0, 0));
        noRing("lift(0, 1)", L_NONE, x -> x.lift(0, 1));
        refused("none leads to it", L_NONE, x -> x.lift(0, 4));
        refused("none leads from it", L_NONE, x -> x.lift(4, 0));
        refused("the one that does is SHUT", L_NONE, x -> x.lift(2, 3));
        refused("it goes the other way", L_NONE, x -> {
            Edge.rich(x);
            x.change(4, 5, 0);
        }, x -> x.lift(3, 2));
    }

    private static Act worth(long n) {
        return x -> x.worth(n);
    }

    private static void worthTold() {
        sentence(14, "n times RATIO of BEST RINGS (n times what is above, its quotient by what is below, cut)");
        // 9 by 2.
        long[][] rich = {{0, 0}, {1, 4}, {-1, -4}, {2, 9}, {-2, -9}, {3, 13}, {-3, -13}, {1024819115206086200L, 4611686018427387900L}};
        for (long[] v : rich) {
            asked("9 by 2, worth(" + v[0] + ")", v[1], Edge::rich, worth(v[0]));
        }
        answers("1 by 1", MAX, round(1, 1), worth(MAX));
        answers("-1 by 1", MAX, round(-1, -1), worth(MIN + 1));
        for (long n : new long[] {MIN, -1, 0, 1, MAX}) {
            answers("0 by 1, worth(" + n + ")", 0, round(1, -1), worth(n));
        }
        answers("1 by 2", MAX / 2, round(1, 0), worth(MAX));
        answers("-1 by 2", MAX / 2, round(-1, 0), worth(MIN + 1));
        answers("-1 by 2, cut", 0, round(-1, 0), worth(1));
    }

    private static void worthNone() {
        sentence(14, NO_RING);
        for (long n : new long[] {0, 1, MIN, MAX}) {
            noRing("worth(" + n + ")", L_NONE, worth(n));
        }
    }

    private static void worthOver() {
        sentence(14, "OVER: n times what is above isn't within 64 bits, or what would be told is below -4000000000000000000");
        long least = -4000000000000000000L;
        for (long n : new long[] {1024819115206086201L, -1024819115206086201L, MAX, MIN}) {
            refused("9 by 2, the product, worth(" + n + ")", L_OVER, worth(n));
        }
        // The product is within, but half of it is too low.
        refused("9 by 2, what is told", L_OVER, worth(-1024819115206086200L));
        refused("9 by 2, just too low", L_OVER, worth(-888888888888888890L));
        answers("9 by 2, cut to the least", least, Edge::rich, worth(-888888888888888889L));
        answers("9 by 2, just above the least", least + 4, Edge::rich, worth(-888888888888888888L));
        answers("1 by 1, the least", least, round(1, 1), worth(least));
        refused("1 by 1, too low", L_OVER, round(1, 1), worth(least - 1));
        refused("1 by 1, as a finding is", L_OVER, round(1, 1), worth(least - 9));
        refused("1 by 1, lowest", L_OVER, round(1, 1), worth(MIN));
        answers("-1 by 1, the least", least, round(-1, -1), worth(-least));
        refused("-1 by 1, too low", L_OVER, round(-1, -1), worth(1 - least));
        refused("-1 by 1, the product", L_OVER, round(-1, -1), worth(MIN));
        refused("-1 by 1, highest", L_OVER, round(-1, -1), worth(MAX));
        answers("1 by 2, cut to the least", least, round(1, 0), worth(2 * least - 1));
        refused("1 by 2, too low", L_OVER, round(1, 0), worth(2 * least - 2));
        refused("-1 by 2, the product", L_OVER, round(-1, 0), worth(MIN));
        answers("2 by 1, just within", MAX - 1, round(2, 2), worth(MAX / 2));
        refused("2 by 1, just over", L_OVER, round(2, 2), worth(MAX / 2 + 1));
    }

    // WAY 0 leads to place 1, WAYS 1 (the rival) and 2 lead back.
    private static Make rivals(int kind, int gain, int time, int otherKind, int otherTime) {
        return x -> {
            x.way(0, 0, 1, 0, 1);
            x.way(kind, 1, 0, gain, time);
            x.way(otherKind, 1, 0, 77, otherTime);
        };
    }

    // What is told is enough, and one less is not.
    private static void raised(String what, long want, Make ready, int way) {
        asked(what, want, ready, x -> x.raise(way));
        RoundsPerHour x = made(ready);
        x.change(way, 5, 0);
        x.change(way, 3, (int) want);
        due(what + ", with it", x.ringWays() >> way & 1, 1);
        if (want > -GAIN) {
            x.change(way, 3, (int) want - 1);
            due(what + ", with less", x.ringWays() >> way & 1, 0);
        }
    }

    private static void raiseLeast() {
        sentence(15, "The least GAIN (-999999999 to 999999999) of a WAY with which, if it isn't SHUT, it is in a BEST RING (all else as now)");
        raised("most", GAIN, rivals(0, GAIN, 1, 0, 1), 2);
        raised("least", -GAIN, rivals(0, -GAIN, 1, 0, 1), 2);
        raised("less would do", -GAIN, rivals(4, -GAIN, 1, 0, 2), 2);
        raised("no other RING", -GAIN, round(5, 5), 1);
        raised("in all RINGS", -GAIN, rivals(0, 5, 1, 0, 1), 0);
        // 1 in 2, -1 in 2: of what lasts 3 it must be 3/2, -3/2; 2 in 2, -2 in 2: 3, -3.
        raised("no less than 3/2", 2, rivals(0, 1, 1, 0, 2), 2);
        raised("no less than -3/2", -1, rivals(0, -1, 1, 0, 2), 2);
        raised("no less than 3", 3, rivals(0, 2, 1, 0, 2), 2);
        raised("no less than -3", -3, rivals(0, -2, 1, 0, 2), 2);
        // As much as the rival, which 29 by 7 and -15 by 11 in parts of two would miss.
        raised("no less than 29", 29, rivals(0, 29, 6, 0, 6), 2);
        raised("no less than -15", -15, rivals(0, -15, 10, 0, 10), 2);
        raised("a STAIR", GAIN - 9, rivals(0, GAIN, 1, 5, 1), 2);
        raised("a TOLL", -GAIN + 7, rivals(0, -GAIN, 2, 1, 1), 2);
        raised("SHUT", 10, x -> {
            rivals(0, 10, 1, 0, 1).on(x);
            x.change(2, 5, 1);
        }, 2);
        raised("SHUT rival", -GAIN, x -> {
            rivals(0, 10, 1, 0, 1).on(x);
            x.change(1, 5, 1);
        }, 2);
        // Without WAY 6 the other round is 5999992999 in 5999993; what lasts 5999994 must be 5999993998 and a bit.
        raised("far", 999998999, RingsEdges::near, 6);
        raised("the last one", 1, x -> {
            for (int w = 0; w < 14; w++) {
                x.way(0, w % 2, 1 - w % 2, w < 13 ? 1 : -5, 1);
            }
        }, 13);
        // In a BEST RING by the better of two RINGS: with 20 in 1, and not with 10 in 1.
        raised("by the better one", -10, x -> {
            x.places(3);
            x.way(0, 0, 1, 0, 1);
            x.way(0, 1, 0, 10, 1);
            x.way(0, 1, 0, 20, 1);
            x.way(0, 1, 2, 5, 1);
            x.way(0, 2, 1, 5, 1);
        }, 0);
    }

    private static void raiseAgain() {
        sentence(15, "The least GAIN (-999999999 to 999999999) of a WAY with which, if it isn't SHUT, it is in a BEST RING (all else as now)");
        // WAYS 0 and 3 lead there, 1 and 2 (10) back: with 3, which brings 100, and without it.
        RoundsPerHour x = made(y -> {
            y.way(0, 0, 1, 0, 1);
            y.way(0, 1, 0, 7, 1);
            y.way(0, 1, 0, 10, 1);
            y.way(0, 0, 1, 100, 1);
        });
        due("with another one", x.raise(1), 10);
        x.change(3, 5, 1);
        due("that one is SHUT since", x.raise(1), 10);
        x.change(2, 3, -5);
        due("the rival brings less since", x.raise(1), -5);
        x.change(2, 5, 1);
        due("it is SHUT since", x.raise(1), -GAIN);
        x.change(0, 5, 1);
        due("no RING since", x.raise(1), NONE);
        x.change(0, 5, 0);
        due("and again", x.raise(1), -GAIN);
    }

    private static void raiseBeyond() {
        sentence(15, "BEYOND");
        for (int w : new int[] {-1, 5, LEAST, MOST}) {
            refused("raise(" + w + ")", BEYOND, x -> x.raise(w));
        }
        refused("no WAYS", BEYOND, Edge::bare, x -> x.raise(0));
        refused("a 15th", BEYOND, Edge::full, x -> x.raise(14));
        refused("a WAY too far, no RING", BEYOND, x -> x.way(0, 0, 1, 1, 1), x -> x.raise(1));
    }

    private static void raiseNone() {
        sentence(15, "NONE: with none");
        refused("no RING at all", NONE, x -> x.way(0, 0, 1, 1, 1), x -> x.raise(0));
        refused("no RING goes there", NONE, x -> x.raise(4));
        refused("another one of its RING is SHUT", NONE, x -> {
            round(1, 1).on(x);
            x.change(1, 5, 1);
        }, x -> x.raise(0));
        // In weather 3 a BRIDGE brings 2 more than its GAIN, and lasts 1 more.
        Make most = x -> {
            rivals(3, GAIN - 2, 1, 0, 2).on(x);
            x.weather(3);
        };
        raised("just the most", GAIN, most, 2);
        refused("just more", NONE, x -> {
            most.on(x);
            x.change(1, 3, GAIN - 1);
        }, x -> x.raise(2));
        refused("far more", NONE, rivals(0, GAIN, 1, 0, TIME), x -> x.raise(2));
        refused("a TOLL", NONE, rivals(0, GAIN, 2, 1, 1), x -> x.raise(2));
    }

    private static void loseTold() {
        sentence(16, "The WAY that isn't SHUT and, SHUT, leaves RATIO of BEST RINGS least (no RING at all is less than any)");
        // Without WAY 0 there is none; without WAY 1 98 by 25 is left.
        asked("no RING is left", 0, Edge::rich, x -> x.lose());
        answers("both alike", 0, round(1, 1), x -> x.lose());
        // Without WAY 1 -GAIN is left of what leads there, without WAY 2 nothing.
        answers("less than any", 2, x -> {
            x.way(0, 0, 1, -GAIN, 1);
            x.way(0, 0, 1, GAIN, 1);
            x.way(0, 1, 0, -GAIN, 1);
        }, x -> x.lose());
        answers("the last one", 13, x -> {
            for (int w = 0; w < 14; w++) {
                x.way(0, w < 13 ? 0 : 1, w < 13 ? 1 : 0, w, 1);
            }
        }, x -> x.lose());
        // All leave as much; the first is SHUT.
        answers("the first that isn't SHUT", 1, x -> {
            for (int w = 0; w < 5; w++) {
                x.way(0, w % 2, 1 - w % 2, 1, 1);
            }
            x.change(0, 5, 1);
        }, x -> x.lose());
        // What is left: 3 in 2 without WAY 1, 10 in 2 without WAY 3.
        answers("what is left is least", 1, x -> {
            x.way(0, 0, 1, 1, 1);
            x.way(0, 0, 1, 9, 1);
            x.way(0, 1, 0, 1, 1);
            x.way(0, 1, 0, 2, 1);
        }, x -> x.lose());
        answers("two leave as little", 1, x -> {
            x.way(0, 0, 1, 1, 1);
            x.way(0, 0, 1, 9, 1);
            x.way(0, 1, 0, 1, 1);
            x.way(0, 1, 0, 9, 1);
        }, x -> x.lose());
        answers("none is less than just less", 0, RingsEdges::near, x -> x.lose());
        answers("just less is left", 11, RingsEdges::nearTwins, x -> x.lose());
    }

    // As near, but with two WAYS wherever both rounds go: only WAY 11 is missed.
    private static void nearTwins(RoundsPerHour x) {
        x.places(6);
        for (int w = 0; w < 10; w++) {
            x.way(0, w % 5, w % 5 + 1, 999999000, TIME);
        }
        x.way(0, 5, 0, 999997999, TIME - 1);
        x.way(0, 5, 0, 999998999, TIME);
    }

    private static void loseNone() {
        sentence(16, NO_RING);
        noRing("lose()", NONE, x -> x.lose());
    }

    // WAY 0 there, WAY 1 back.
    private static Make ofKind(int weather, int gain, int time, int backGain, int backTime) {
        return x -> {
            x.weather(weather);
            x.way(2, 0, 1, gain, time);
            x.way(0, 1, 0, backGain, backTime);
        };
    }

    private static void kindTold() {
        sentence(17, "The KIND of which a WAY must be, so that RATIO of BEST RINGS is greatest");
        // By KIND: 10, 3, 5, 6, -6, 10 in 2, 3, 3, 3, 5, 2.
        asked("WAY, or STAIR", 0, ofKind(1, 10, 1, 0, 1), x -> x.kind(0));
        // By KIND: -1000, -1007, -1000, -1007, -1011, -991 in 2, 3, 2, 3, 3, 2.
        asked("TOLL, or BRIDGE", 1, ofKind(0, -1000, 1, 0, 1), x -> x.kind(0));
        // By KIND: 100, 93, 75, 108, 64, 100 in 101, 102, 106, 102, 112, 103.
        asked("BRIDGE", 3, ofKind(5, 100, 1, 0, 100), x -> x.kind(0));
        // By KIND: -1000, -1007, -1000, -1007, -1011, -991 in 11, 12, 11, 12, 21, 11.
        asked("MIRE", 4, ofKind(0, -1000, 10, 0, 1), x -> x.kind(0));
        // By KIND: 10, 3, 10, 3, -1, 19 in 2, 3, 2, 3, 3, 2.
        asked("STAIR", 5, ofKind(0, 10, 1, 0, 1), x -> x.kind(0));
        // By KIND: 10, 3, -10, 15, -21, 19 in 2, 3, 6, 3, 11, 4.
        asked("WAY, or BRIDGE", 0, ofKind(4, 10, 1, 0, 1), x -> x.kind(0));
        // 2147 and 2156 in 999999: one product with what is below is above 31 bits.
        asked("STAIR, far", 5, ofKind(0, 2147, 1, 0, TIME - 1), x -> x.kind(0));
        asked("SHUT", 0, x -> {
            ofKind(0, 10, 1, 0, 1).on(x);
            x.way(3, 0, 1, 100, 1);
            x.change(2, 5, 1);
        }, x -> x.kind(2));
        asked("in no RING", 0, Edge::rich, x -> x.kind(4));
        // Others bring 178 in 4, as long as WAY 13 brings so little.
        answers("the last one, too little in all", 0, x -> {
            for (int w = 0; w < 14; w++) {
                x.way(4, w % 2, 1 - w % 2, w < 12 ? 100 : -100, 1);
            }
        }, x -> x.kind(13));
        answers("the last one", 5, x -> {
            for (int w = 0; w < 14; w++) {
                x.way(4, w % 2, 1 - w % 2, 100, 1);
            }
        }, x -> x.kind(13));
    }

    private static void kindAgain() {
        sentence(17, "The KIND of which a WAY must be, so that RATIO of BEST RINGS is greatest");
        // What was greatest ahead of a change is no matter behind it.
        RoundsPerHour x = made(ofKind(0, 10, 1, 0, 1));
        due("STAIR", x.kind(0), 5);
        x.change(0, 3, -1000);
        due("TOLL since", x.kind(0), 1);
        x.change(0, 4, 10);
        due("MIRE since", x.kind(0), 4);
        due("season", x.season(), 5);
        x.weather(1);
        x.change(0, 3, 10);
        x.change(0, 4, 1);
        due("WAY since", x.kind(0), 0);
    }

    private static void kindBeyond() {
        sentence(17, "BEYOND");
        for (int w : new int[] {-1, 5, LEAST, MOST}) {
            refused("kind(" + w + ")", BEYOND, x -> x.kind(w));
        }
        refused("ahead of NONE", BEYOND, Edge::bare, x -> x.kind(0));
        refused("ahead of NONE, a WAY too far", BEYOND, x -> x.way(0, 0, 1, 1, 1), x -> x.kind(1));
        refused("a 15th", BEYOND, Edge::full, x -> x.kind(14));
    }

    private static void kindNone() {
        sentence(17, NO_RING);
        for (int i = 1; i < RINGLESS.length; i++) {
            refused("kind(0), ringless country " + i, NONE, RINGLESS[i], x -> x.kind(0));
        }
    }

    // A STAIR there, a BRIDGE back, in this WEATHER.
    private static Make stairAndBridge(int weather, int time) {
        return x -> {
            x.weather(weather);
            x.way(5, 0, 1, 10, time);
            x.way(3, 1, 0, 10, time);
        };
    }

    private static void seasonTold() {
        sentence(18, "The WEATHER in which RATIO of BEST RINGS is greatest");
        for (int now = 0; now < 6; now++) {
            int weather = now;
            Make plain = x -> {
                round(1, 1).on(x);
                x.weather(weather);
            };
            asked("all alike", 0, plain, x -> x.season());
            // By WEATHER: 22, 16, 28, 22 in 3, 34, 28 in 5; and in 201, 203.
            asked("2", 2, stairAndBridge(now, 1), x -> x.season());
            asked("4", 4, stairAndBridge(now, 100), x -> x.season());
            // 20 - 7 and 3 more each time.
            asked("5", 5, x -> {
                stairAndBridge(weather, 1).on(x);
                x.change(0, 0, 0);
            }, x -> x.season());
            // From 2147 in 999999 on, by 3: products with what is below are above 31 bits.
            asked("5, far", 5, x -> {
                x.weather(weather);
                x.way(3, 0, 1, 2154, 1);
                x.way(0, 1, 0, 0, TIME - 2);
            }, x -> x.season());
            // 29, 20, 29, 20 in 2; 29, 20 in 4.
            asked("0 or 2", 0, x -> {
                stairAndBridge(weather, 1).on(x);
                x.change(1, 0, 0);
            }, x -> x.season());
            // -90, -95, .. in 2, 3, ..
            asked("5, as it lasts longer", 5, ofKind(now, -90, 1, 0, 1), x -> x.season());
        }
    }

    private static void seasonAgain() {
        sentence(18, "The WEATHER in which RATIO of BEST RINGS is greatest");
        RoundsPerHour x = made(stairAndBridge(0, 1));
        due("2", x.season(), 2);
        x.change(0, 0, 2);
        x.change(0, 3, -90);
        x.change(1, 0, 0);
        x.change(1, 3, 0);
        due("5 since", x.season(), 5);
        x.change(0, 3, -1);
        due("0 since", x.season(), 0);
    }

    private static void seasonNone() {
        sentence(18, NO_RING);
        noRing("season()", NONE, x -> x.season());
    }
}
