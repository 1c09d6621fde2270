/** Promises 1 to 10 at their edges. */
final class CountryEdges extends Edge {
    private CountryEdges() { }

    static void all() {
        newObject();
        placesBecome();
        placesBeyond();
        placesState();
        weatherBecomes();
        weatherBeyond();
        wayNew();
        wayBeyond();
        wayFull();
        ofTold();
        ofBeyond();
        changeBecomes();
        changeBeyond();
        asGain();
        asBeyond();
        asKind();
        thingNew();
        thingBeyond();
        thingFull();
        alterBecomes();
        alterBeyond();
        itsTold();
        itsBeyond();
    }

    private static void newObject() {
        sentence(1, "PLACES 2, no WAYS, no THINGS; THE TAPE is empty, no image is kept");
        // What other objects have been through is not seen.
        RoundsPerHour other = made(Edge::full);
        RoundsPerHour x = new RoundsPerHour();
        due("PLACES", x.count(0), 2);
        due("WAYS", x.count(1), 0);
        due("no WAY 0", x.of(0, 0), BEYOND);
        due("THINGS", x.count(2), 0);
        due("no THING 0", x.its(0, 0), BEYOND);
        due("SHUT", x.count(3), 0);
        due("WEATHER", x.count(4), 0);
        due("THE TAPE", x.count(5), 0);
        due("nothing to wipe", x.wipe(), 0);
        due("nothing to undo", x.undo(), NONE);
        due("nothing to tear", x.tear(), 0);
        due("findings of this one alone", x.status(-1), 3);
        due("findings of the other one", other.status(-1), 0);
        due("no findings at first", new RoundsPerHour().status(-1), 0);
    }

    private static void placesBecome() {
        sentence(2, "PLACES become v: what they were");
        RoundsPerHour x = new RoundsPerHour();
        int was = 2;
        for (int v : new int[] {2, 3, 4, 5, 6, 6, 2, 5}) {
            due("places(" + v + ")", x.places(v), was);
            due("PLACES", x.count(0), v);
            was = v;
        }
        due("no finding", x.status(-1), 0);
        due("the last PLACE", x.way(0, 4, 0, 0, 1), 0);
        due("there is none behind it", x.way(0, 5, 0, 0, 1), BEYOND);
    }

    private static void placesBeyond() {
        sentence(2, "BEYOND");
        for (int v : new int[] {1, 7, 0, -1, LEAST, MOST}) {
            refused("places(" + v + ")", BEYOND, Edge::bare, x -> x.places(v));
            refused("ahead of STATE, places(" + v + ")", BEYOND, x -> x.places(v));
        }
        answers("least", 2, Edge::bare, x -> x.places(2));
        answers("most", 2, Edge::bare, x -> x.places(6));
    }

    private static void placesState() {
        sentence(2, "STATE: a WAY would end where there is none");
        for (int v = 2; v < 6; v++) {
            int at = v;
            Make to = x -> {
                x.places(6);
                x.way(0, 0, at, 1, 1);
            };
            refused("TO " + v, STATE, to, x -> x.places(at));
            answers("room for TO " + v, 6, to, x -> x.places(at + 1));
            Make from = x -> {
                x.places(6);
                x.way(0, at, 1, 1, 1);
            };
            refused("FROM " + v, STATE, from, x -> x.places(at));
            answers("room for FROM " + v, 6, from, x -> x.places(at + 1));
        }
        // WAY 2 goes TO 3; SHUT, it ends there still.
        refused("of several", STATE, x -> x.places(3));
        refused("SHUT", STATE, x -> {
            x.places(3);
            x.way(0, 2, 0, 1, 1);
            x.change(0, 5, 1);
        }, x -> x.places(2));
        refused("full", STATE, Edge::full, x -> x.places(5));
        refused("the last WAY alone", STATE, x -> {
            x.places(3);
            for (int w = 0; w < 14; w++) {
                x.way(0, 0, w < 13 ? 1 : 2, 1, 1);
            }
        }, x -> x.places(2));
        answers("as many as there are", 6, Edge::full, x -> x.places(6));
    }

    private static void weatherBecomes() {
        sentence(3, "WEATHER becomes v: what it was");
        RoundsPerHour x = new RoundsPerHour();
        int was = 0;
        for (int v : new int[] {0, 1, 2, 3, 4, 5, 5, 0, 4}) {
            due("weather(" + v + ")", x.weather(v), was);
            due("WEATHER", x.count(4), v);
            was = v;
        }
        due("no finding", x.status(-1), 0);
    }

    private static void weatherBeyond() {
        sentence(3, "BEYOND");
        for (int v : new int[] {-1, 6, LEAST, MOST}) {
            refused("weather(" + v + ")", BEYOND, x -> x.weather(v));
        }
        answers("least", 3, Edge::rich, x -> x.weather(0));
        answers("most", 3, Edge::rich, x -> x.weather(5));
    }

    private static void wayNew() {
        sentence(4, "A new WAY: its number");
        RoundsPerHour x = new RoundsPerHour();
        x.places(6);
        int[][] ways = {{0, 0, 1, -GAIN, 1}, {5, 5, 0, GAIN, TIME}, {1, 0, 5, 0, 2}, {2, 4, 5, -1, TIME - 1}, {3, 5, 4, 1, 3}, {4, 1, 0, 7, 4}};
        for (int w = 0; w < 14; w++) {
            int[] v = ways[w % 6];
            due("way " + w, x.way(v[0], v[1], v[2], v[3], v[4]), w);
            due("WAYS", x.count(1), w + 1);
        }
        for (int w = 0; w < 14; w++) {
            for (int what = 0; what < 5; what++) {
                due("of(" + w + ", " + what + ")", x.of(w, what), ways[w % 6][what]);
            }
            due("it isn't SHUT", x.of(w, 5), 0);
        }
        due("no finding", x.status(-1), 0);
    }

    private static void wayBeyond() {
        sentence(4, "BEYOND: kind, from, to (also one and the same), gain, time");
        // Each with one that can't be; in five places. In a full country BEYOND is told, too, as it is asked ahead of FULL.
        int[][] wrong = {{-1, 0, 1, 0, 1}, {6, 0, 1, 0, 1}, {LEAST, 0, 1, 0, 1}, {MOST, 0, 1, 0, 1},
            {0, -1, 1, 0, 1}, {0, LEAST, 1, 0, 1}, {0, MOST, 1, 0, 1}, {0, 0, -1, 0, 1}, {0, 0, LEAST, 0, 1}, {0, 0, MOST, 0, 1},
            {0, 0, 0, 0, 1}, {0, 4, 4, 0, 1}, {0, 0, 1, -GAIN - 1, 1}, {0, 0, 1, GAIN + 1, 1}, {0, 0, 1, LEAST, 1}, {0, 0, 1, MOST, 1},
            {0, 0, 1, 0, 0}, {0, 0, 1, 0, TIME + 1}, {0, 0, 1, 0, -1}, {0, 0, 1, 0, LEAST}, {0, 0, 1, 0, MOST}};
        for (int[] v : wrong) {
            String told = "way(" + v[0] + ", " + v[1] + ", " + v[2] + ", " + v[3] + ", " + v[4] + ")";
            refused(told, BEYOND, x -> x.way(v[0], v[1], v[2], v[3], v[4]));
            refused("ahead of FULL, " + told, BEYOND, Edge::full, x -> x.way(v[0], v[1], v[2], v[3], v[4]));
        }
        refused("FROM as many as there are PLACES", BEYOND, x -> x.way(0, 5, 1, 0, 1));
        refused("TO as many as there are PLACES", BEYOND, x -> x.way(0, 1, 5, 0, 1));
        refused("FROM 6 of 6", BEYOND, x -> x.places(6), x -> x.way(0, 6, 1, 0, 1));
        refused("TO 6 of 6", BEYOND, x -> x.places(6), x -> x.way(0, 1, 6, 0, 1));
        refused("TO 2 of 2", BEYOND, Edge::bare, x -> x.way(0, 1, 2, 0, 1));
        int[][] right = {{0, 0, 1, 0, 1}, {5, 0, 1, 0, 1}, {0, 4, 1, 0, 1}, {0, 1, 4, 0, 1}, {0, 1, 0, 0, 1},
            {0, 0, 1, -GAIN, 1}, {0, 0, 1, GAIN, 1}, {0, 0, 1, 0, TIME}};
        for (int[] v : right) {
            answers("within", 5, Edge::rich, x -> x.way(v[0], v[1], v[2], v[3], v[4]));
        }
    }

    private static void wayFull() {
        sentence(4, "FULL");
        refused("a 15th", FULL, Edge::full, x -> x.way(0, 0, 1, 0, 1));
        refused("all SHUT", FULL, x -> {
            Edge.full(x);
            for (int w = 0; w < 14; w++) {
                x.change(w, 5, 1);
            }
        }, x -> x.way(0, 0, 1, 0, 1));
        answers("a 14th", 13, x -> {
            for (int w = 0; w < 13; w++) {
                x.way(0, 0, 1, 0, 1);
            }
        }, x -> x.way(0, 0, 1, 0, 1));
    }

    private static void ofTold() {
        sentence(5, "Of a WAY: what 0 KIND, 1 FROM, 2 TO, 3 GAIN, 4 TIME, 5 SHUT, 6 what it BRINGS, 7 LASTS");
        int[][] ways = {{3, 0, 1, 40, 5, 0, 42, 6}, {0, 1, 0, -6, 2, 0, -6, 2}, {4, 1, 3, 70, 3, 0, 44, 12},
            {5, 3, 0, 12, 7, 0, 12, 7}, {1, 2, 3, 9, 1, 1, 2, 2}};
        for (int w = 0; w < 5; w++) {
            for (int what = 0; what < 8; what++) {
                int way = w;
                int asked = what;
                asked("of(" + w + ", " + what + ")", ways[w][what], Edge::rich, x -> x.of(way, asked));
            }
        }
        // The 14th: TOLL, of weather 5.
        int[] last = {1, 1, 2, 23, 14, 0, 16, 15};
        for (int what = 0; what < 8; what++) {
            int asked = what;
            answers("the last, what " + what, last[what], Edge::full, x -> x.of(13, asked));
        }
    }

    private static void ofBeyond() {
        sentence(5, "BEYOND");
        for (int w : new int[] {-1, 5, 14, LEAST, MOST}) {
            refused("of(" + w + ", 0)", BEYOND, x -> x.of(w, 0));
        }
        for (int what : new int[] {-1, 8, LEAST, MOST}) {
            refused("of(0, " + what + ")", BEYOND, x -> x.of(0, what));
        }
        refused("no WAYS", BEYOND, Edge::bare, x -> x.of(0, 0));
        refused("a 15th", BEYOND, Edge::full, x -> x.of(14, 0));
    }

    private static void changeBecomes() {
        sentence(6, "KIND (what 0), FROM (1), TO (2; FROM and TO are never the same), GAIN (3), TIME (4), SHUT (5) of a WAY becomes v: what it was");
        // WAY 2 of the rich one is a MIRE from 1 to 3, of 70 in 3; there are five places.
        int[] was = {4, 1, 3, 70, 3, 0};
        int[][] may = {{0, 1, 2, 3, 4, 5}, {0, 1, 2, 4}, {0, 2, 3, 4}, {-GAIN, GAIN, 0, 70}, {1, TIME, 3}, {0, 1}};
        for (int what = 0; what < 6; what++) {
            for (int v : may[what]) {
                int changed = what;
                RoundsPerHour x = made(Edge::rich);
                due("change(2, " + what + ", " + v + ")", x.change(2, what, v), was[what]);
                due("became", x.of(2, what), v);
                due("and back", x.change(2, what, was[what]), v);
                alike("there and back, what " + what, y -> {
                    Edge.rich(y);
                    y.change(2, changed, v);
                    y.change(2, changed, was[changed]);
                }, Edge::rich);
            }
        }
        refused("FROM as TO", BEYOND, x -> x.change(2, 1, 3));
        refused("TO as FROM", BEYOND, x -> x.change(2, 2, 1));
        RoundsPerHour y = made(Edge::full);
        due("the last one", y.change(13, 3, -5), 23);
        due("it became", y.of(13, 3), -5);
    }

    private static void changeBeyond() {
        sentence(6, "BEYOND");
        for (int w : new int[] {-1, 5, LEAST, MOST}) {
            for (int what = 0; what < 6; what++) {
                int asked = what;
                refused("change(" + w + ", " + what + ", 1)", BEYOND, x -> x.change(w, asked, 1));
            }
        }
        for (int what : new int[] {-1, 6, 7, LEAST, MOST}) {
            refused("change(0, " + what + ", 1)", BEYOND, x -> x.change(0, what, 1));
        }
        int[][] wrong = {{-1, 6, LEAST, MOST}, {-1, 5, LEAST, MOST}, {-1, 5, LEAST, MOST}, {-GAIN - 1, GAIN + 1, LEAST, MOST},
            {0, TIME + 1, -1, LEAST, MOST}, {-1, 2, LEAST, MOST}};
        for (int what = 0; what < 6; what++) {
            for (int v : wrong[what]) {
                int asked = what;
                refused("change(2, " + what + ", " + v + ")", BEYOND, x -> x.change(2, asked, v));
            }
        }
        refused("FROM 6 of 6", BEYOND, Edge::full, x -> x.change(0, 1, 6));
        refused("TO 6 of 6", BEYOND, Edge::full, x -> x.change(0, 2, 6));
        refused("no WAYS", BEYOND, Edge::bare, x -> x.change(0, 3, 1));
        refused("a 15th", BEYOND, Edge::full, x -> x.change(14, 3, 1));
    }

    // Six WAYS, one of each KIND, of GAIN 50 to 55, in weather 5.
    private static void kinds(RoundsPerHour x) {
        for (int k = 0; k < 6; k++) {
            x.way(k, 0, 1, 50 + k, 3);
        }
        x.weather(5);
    }

    private static final int[][] UNDER = {{0, 0}, {1, 1}, {1, 0}, {2, 2}, {2, 0}, {3, 3}, {3, 1}, {3, 0}, {4, 4}, {4, 2}, {4, 0}, {5, 5}, {5, 0}};

    private static boolean isUnder(int kind, int other) {
        for (int[] pair : UNDER) {
            if (pair[0] == kind && pair[1] == other) {
                return true;
            }
        }
        return false;
    }

    private static void asGain() {
        sentence(7, "A WAY as one of a kind: GAIN");
        for (int[] pair : UNDER) {
            asked("kind " + pair[0] + " as " + pair[1], 50 + pair[0], CountryEdges::kinds, x -> x.as(pair[0], pair[1]));
        }
        for (int gain : new int[] {-GAIN, 0, GAIN}) {
            answers("gain " + gain, gain, x -> x.way(3, 0, 1, gain, 1), x -> x.as(0, 1));
        }
        answers("SHUT", 9, Edge::rich, x -> x.as(4, 1));
        answers("the last one", 23, Edge::full, x -> x.as(13, 0));
    }

    private static void asBeyond() {
        sentence(7, "BEYOND: no such one, kind");
        for (int w : new int[] {-1, 6, LEAST, MOST}) {
            refused("as(" + w + ", 0)", BEYOND, CountryEdges::kinds, x -> x.as(w, 0));
        }
        for (int k : new int[] {-1, 6, LEAST, MOST}) {
            refused("as(0, " + k + ")", BEYOND, CountryEdges::kinds, x -> x.as(0, k));
        }
        refused("no WAYS", BEYOND, Edge::bare, x -> x.as(0, 0));
        refused("a 15th", BEYOND, Edge::full, x -> x.as(14, 0));
    }

    private static void asKind() {
        sentence(7, "KIND: it isn't of that kind, nor of one under it");
        for (int k = 0; k < 6; k++) {
            for (int other = 0; other < 6; other++) {
                if (!isUnder(k, other)) {
                    int way = k;
                    int as = other;
                    refused("kind " + k + " as " + other, KIND, CountryEdges::kinds, x -> x.as(way, as));
                }
            }
        }
        refused("since its KIND was changed", KIND, x -> {
            kinds(x);
            x.change(3, 0, 2);
        }, x -> x.as(3, 1));
    }

    private static void thingNew() {
        sentence(8, "A new THING: its number");
        RoundsPerHour x = new RoundsPerHour();
        int[][] things = {{-GAIN, 1}, {GAIN, TIME}, {0, 1}, {-1, TIME}};
        for (int t = 0; t < 12; t++) {
            due("thing " + t, x.thing(things[t % 4][0], things[t % 4][1]), t);
            due("THINGS", x.count(2), t + 1);
        }
        for (int t = 0; t < 12; t++) {
            due("GAIN of " + t, x.its(t, 0), things[t % 4][0]);
            due("TIME of " + t, x.its(t, 1), things[t % 4][1]);
        }
        due("BASE is none of them", x.its(-1, 0), 0);
        due("BASE's TIME", x.its(-1, 1), 1);
        due("no finding", x.status(-1), 0);
    }

    private static void thingBeyond() {
        sentence(8, "BEYOND: gain, time");
        int[][] wrong = {{-GAIN - 1, 1}, {GAIN + 1, 1}, {LEAST, 1}, {MOST, 1}, {0, 0}, {0, TIME + 1}, {0, -1}, {0, LEAST}, {0, MOST}};
        for (int[] v : wrong) {
            refused("thing(" + v[0] + ", " + v[1] + ")", BEYOND, x -> x.thing(v[0], v[1]));
            refused("ahead of FULL, thing(" + v[0] + ", " + v[1] + ")", BEYOND, Edge::full, x -> x.thing(v[0], v[1]));
        }
        for (int[] v : new int[][] {{-GAIN, 1}, {GAIN, 1}, {0, TIME}}) {
            answers("within", 3, Edge::rich, x -> x.thing(v[0], v[1]));
        }
    }

    private static void thingFull() {
        sentence(8, "FULL");
        refused("a 13th", FULL, Edge::full, x -> x.thing(0, 1));
        answers("a 12th", 11, x -> {
            for (int t = 0; t < 11; t++) {
                x.thing(0, 1);
            }
        }, x -> x.thing(0, 1));
    }

    private static void alterBecomes() {
        sentence(9, "GAIN (what 0), TIME (1) of a THING, or, thing being -1, of BASE becomes v: what it was");
        int[][] was = {{7, 4}, {14, 5}, {-3, 2}, {20, 9}};
        int[][] may = {{-GAIN, GAIN, 0}, {1, TIME}};
        for (int t = -1; t < 3; t++) {
            for (int what = 0; what < 2; what++) {
                for (int v : may[what]) {
                    int thing = t;
                    int altered = what;
                    RoundsPerHour x = made(Edge::rich);
                    due("alter(" + t + ", " + what + ", " + v + ")", x.alter(t, what, v), was[t + 1][what]);
                    due("became", x.its(t, what), v);
                    due("and back", x.alter(t, what, was[t + 1][what]), v);
                    alike("there and back", y -> {
                        Edge.rich(y);
                        y.alter(thing, altered, v);
                        y.alter(thing, altered, was[thing + 1][altered]);
                    }, Edge::rich);
                }
            }
        }
        RoundsPerHour y = made(Edge::full);
        due("the last one's GAIN", y.alter(11, 0, -1), 31);
        due("the last one's TIME", y.alter(11, 1, 1), 13);
        due("it became", y.its(11, 0), -1);
        due("its TIME became", y.its(11, 1), 1);
    }

    private static void alterBeyond() {
        sentence(9, "BEYOND");
        for (int t : new int[] {-2, 3, LEAST, MOST}) {
            refused("alter(" + t + ", 0, 1)", BEYOND, x -> x.alter(t, 0, 1));
            refused("alter(" + t + ", 1, 1)", BEYOND, x -> x.alter(t, 1, 1));
        }
        for (int t = -1; t < 3; t++) {
            int thing = t;
            for (int what : new int[] {-1, 2, LEAST, MOST}) {
                refused("alter(" + t + ", " + what + ", 1)", BEYOND, x -> x.alter(thing, what, 1));
            }
            for (int v : new int[] {-GAIN - 1, GAIN + 1, LEAST, MOST}) {
                refused("alter(" + t + ", 0, " + v + ")", BEYOND, x -> x.alter(thing, 0, v));
            }
            for (int v : new int[] {0, TIME + 1, -1, LEAST, MOST}) {
                refused("alter(" + t + ", 1, " + v + ")", BEYOND, x -> x.alter(thing, 1, v));
            }
        }
        refused("no THINGS", BEYOND, Edge::bare, x -> x.alter(0, 0, 1));
        refused("a 13th", BEYOND, Edge::full, x -> x.alter(12, 0, 1));
    }

    private static void itsTold() {
        sentence(10, "GAIN (what 0), TIME (1) of a THING, or, thing being -1, of BASE");
        int[][] told = {{7, 4}, {14, 5}, {-3, 2}, {20, 9}};
        for (int t = -1; t < 3; t++) {
            for (int what = 0; what < 2; what++) {
                int thing = t;
                int asked = what;
                asked("its(" + t + ", " + what + ")", told[t + 1][what], Edge::rich, x -> x.its(thing, asked));
            }
        }
        answers("the last one's GAIN", 31, Edge::full, x -> x.its(11, 0));
        answers("the last one's TIME", 13, Edge::full, x -> x.its(11, 1));
        answers("BASE's GAIN, no THINGS", 0, Edge::bare, x -> x.its(-1, 0));
        answers("BASE's TIME, no THINGS", 1, Edge::bare, x -> x.its(-1, 1));
    }

    private static void itsBeyond() {
        sentence(10, "BEYOND");
        for (int t : new int[] {-2, 3, LEAST, MOST}) {
            refused("its(" + t + ", 0)", BEYOND, x -> x.its(t, 0));
            refused("its(" + t + ", 1)", BEYOND, x -> x.its(t, 1));
        }
        for (int what : new int[] {-1, 2, LEAST, MOST}) {
            refused("its(0, " + what + ")", BEYOND, x -> x.its(0, what));
            refused("its(-1, " + what + ")", BEYOND, x -> x.its(-1, what));
        }
        refused("no THINGS", BEYOND, Edge::bare, x -> x.its(0, 0));
        refused("a 13th", BEYOND, Edge::full, x -> x.its(12, 0));
    }
}
