import java.util.List;

/** Promises 34 to 38 at their edges, and how many calls an object is good for. */
final class ImagesEdges extends Edge {
    private ImagesEdges() { }

    static void all() {
        imageKept();
        undoBecomes();
        undoNone();
        tearTold();
        countTold();
        countBeyond();
        statusTold();
        statusBeyond();
        calls();
    }

    // All of a country becomes another one.
    private static void another(RoundsPerHour x) {
        x.places(6);
        x.weather(1);
        for (int w = 0; w < x.count(1); w++) {
            for (int what = 0; what < 6; what++) {
                x.change(w, what, what == 5 ? 1 - x.of(w, 5) : what == 1 || what == 2 ? 7 - x.of(w, 1) - x.of(w, 2) : 5);
            }
        }
        for (int t = -1; t < x.count(2); t++) {
            x.alter(t, 0, 55);
            x.alter(t, 1, 66);
        }
        x.way(0, 1, 0, 3, 3);
        x.thing(4, 4);
    }

    private static void same(String what, List<Long> got, List<Long> want) {
        due(got.equals(want) ? what : what + " " + got + " and not " + want, got.equals(want) ? 1 : 0, 1);
    }

    private static void imageKept() {
        sentence(34, "All but THE TAPE and SHEETS is kept: 1");
        Make[] countries = {Edge::bare, Edge::rich, Edge::full};
        for (Make ready : countries) {
            RoundsPerHour x = made(ready);
            List<Long> was = country(x);
            due("image()", x.image(), 1);
            another(x);
            x.undo();
            same("all is as it was", country(x), was);
        }
        RoundsPerHour x = made(Edge::rich);
        x.image();
        x.wipe();
        x.write(0, 0, 99);
        x.sheet(1, 16, 1);
        x.sheet(2, 0, 0);
        x.sheet(3, 64, 2);
        x.undo();
        due("THE TAPE isn't kept", x.count(5), 0);
        due("a number isn't kept", x.read(0, 0), 99);
        due("a sheet's size isn't kept", x.read(1, 1), L_BEYOND);
        due("a sheet isn't kept", x.read(2, 0), L_MISSING);
        due("nor that it was MISSING", x.read(3, 1), 0);
        RoundsPerHour y = made(Edge::rich);
        due("again", y.image(), 1);
        due("and again", y.image(), 1);
        alike("it changes nothing now", z -> {
            rich(z);
            z.image();
            z.tear();
        }, z -> {
            rich(z);
            z.tear();
        });
    }

    private static void undoBecomes() {
        sentence(35, "It becomes what was kept latest (which stays): how many WAYS");
        RoundsPerHour x = new RoundsPerHour();
        x.image();
        x.way(0, 0, 1, 1, 1);
        due("none", x.undo(), 0);
        due("no WAYS", x.count(1), 0);
        due("the first one is new again", x.way(0, 1, 0, 2, 2), 0);
        due("it isn't SHUT", x.of(0, 5), 0);
        x.image();
        x.weather(2);
        due("one", x.undo(), 1);
        due("WEATHER", x.count(4), 0);
        for (int w = 1; w < 14; w++) {
            x.way(0, 0, 1, w, 1);
        }
        x.image();
        due("fourteen", x.undo(), 14);
        x.change(13, 3, 55);
        due("it stays", x.undo(), 14);
        due("as it was kept", x.of(13, 3), 13);
        x.change(13, 3, 56);
        due("and stays", x.undo(), 14);
        due("as it was kept still", x.of(13, 3), 13);
        // The rich one's image has one WAY, weather 2, three places.
        RoundsPerHour y = made(Edge::rich);
        due("back to one", y.undo(), 1);
        due("PLACES", y.count(0), 3);
        due("WEATHER then", y.count(4), 2);
        due("THINGS", y.count(2), 1);
        due("BASE", y.its(-1, 1), 9);
        due("none SHUT", y.count(3), 0);
        due("no second WAY", y.of(1, 0), BEYOND);
        due("a WAY ends at place 2", y.places(2), STATE);
        RoundsPerHour z = made(Edge::rich);
        z.image();
        z.weather(5);
        due("the latest", z.undo(), 5);
        due("of the latest", z.count(4), 3);
        // What a TEXT told is taken back as well.
        z.text();
        due("told", z.count(4), 1);
        due("undone", z.undo(), 5);
        due("as before", z.count(4), 3);
        due("no THING told", z.count(2), 3);
    }

    private static void undoNone() {
        sentence(35, "NONE: nothing is kept");
        refused("at first", NONE, Edge::bare, x -> x.undo());
        refused("since tear()", NONE, x -> {
            rich(x);
            x.tear();
        }, x -> x.undo());
        refused("no older one", NONE, x -> {
            rich(x);
            x.image();
            x.image();
            x.tear();
        }, x -> x.undo());
        answers("kept again", 5, x -> {
            rich(x);
            x.tear();
            x.image();
        }, x -> x.undo());
    }

    private static void tearTold() {
        sentence(36, "Nothing is kept: 1 if something was, else 0");
        asked("at first", 0, Edge::bare, x -> x.tear());
        RoundsPerHour x = made(Edge::rich);
        List<Long> was = country(x);
        due("something was", x.tear(), 1);
        due("nothing then", x.tear(), 0);
        same("what is now stays", country(x), was);
        due("nothing to undo", x.undo(), NONE);
        x.image();
        due("something again", x.tear(), 1);
        x.image();
        x.undo();
        due("it stayed when it was undone", x.tear(), 1);
        x.image();
        x.image();
        due("of two", x.tear(), 1);
        due("both are gone", x.tear(), 0);
        due("no finding but one", x.status(-1), 1);
    }

    private static void counted(String what, Make ready, int... want) {
        for (int i = 0; i < 6; i++) {
            int which = i;
            asked(what + ", count(" + i + ")", want[i], ready, x -> x.count(which));
        }
    }

    private static void countTold() {
        sentence(37, "0 PLACES, 1 WAYS, 2 THINGS, 3 WAYS that are SHUT, 4 WEATHER, 5 bytes of THE TAPE");
        counted("none", Edge::bare, 2, 0, 0, 0, 0, 0);
        counted("some", Edge::rich, 5, 5, 3, 1, 3, RICH_TAPE.length());
        counted("all", Edge::full, 6, 14, 12, 0, 5, 120);
        counted("all SHUT", x -> {
            full(x);
            for (int w = 0; w < 14; w++) {
                x.change(w, 5, 1);
            }
        }, 6, 14, 12, 14, 5, 120);
        counted("opened again", x -> {
            rich(x);
            x.change(4, 5, 0);
            x.change(4, 5, 0);
        }, 5, 5, 3, 0, 3, RICH_TAPE.length());
        counted("SHUT twice", x -> {
            rich(x);
            x.change(4, 5, 1);
        }, 5, 5, 3, 1, 3, RICH_TAPE.length());
    }

    private static void countBeyond() {
        sentence(37, "BEYOND: another what");
        for (int what : new int[] {-1, 6, LEAST, MOST}) {
            refused("count(" + what + ")", BEYOND, x -> x.count(what));
        }
    }

    // One act for each finding, in their order, on the rich one.
    private static final Act[] FOUND = {x -> x.places(9), x -> {
        for (int i = 0; i < 30; i++) {
            if (x.feed(0x20202020, 4) == FULL) {
                return FULL;
            }
        }
        return 0;
    }, x -> x.as(0, 5), x -> x.tree(0), x -> x.places(3), x -> x.read(3, 0), x -> x.sheet(0, 16, -1), x -> x.compare(0, 2, 2), x -> x.worth(MAX)};

    private static void statusTold() {
        sentence(38, "How many acts answered a finding ever (undo() takes none back): which -1: all, 0 to 8: BEYOND to OVER");
        for (int which = -1; which < 9; which++) {
            int asked = which;
            asked("none, status(" + which + ")", 0, Edge::rich, x -> x.status(asked));
        }
        RoundsPerHour x = made(Edge::rich);
        int all = 0;
        for (int f = 0; f < 9; f++) {
            // As often as its number, and once more.
            for (int times = 0; times <= f; times++) {
                FOUND[f].on(x);
                all++;
                due("all, finding " + f, x.status(-1), all);
            }
        }
        for (int f = 0; f < 9; f++) {
            due("of finding " + f, x.status(f), f + 1);
        }
        due("undo()", x.undo(), 1);
        due("takes none back", x.status(-1), 45);
        for (int f = 0; f < 9; f++) {
            due("takes none back of finding " + f, x.status(f), f + 1);
        }
        x.tear();
        due("undo() itself", x.undo(), NONE);
        due("is counted", x.status(3), 5);
        x.wipe();
        due("a FAULT", x.text(), -1);
        due("is not", x.status(-1), 46);
        x.image();
        x.ring(0);
        x.undo();
        due("nor does it go when what was kept was kept ahead of it", x.status(3), 6);
        due("all then", x.status(-1), 47);
    }

    private static void statusBeyond() {
        sentence(38, "BEYOND (counted from then on): another one");
        for (int which : new int[] {-2, 9, LEAST, MOST}) {
            refused("status(" + which + ")", BEYOND, x -> x.status(which));
        }
        RoundsPerHour x = new RoundsPerHour();
        for (int i = 1; i <= 3; i++) {
            due("status(9)", x.status(9), BEYOND);
            due("counted, BEYOND", x.status(0), i);
            due("counted, all", x.status(-1), i);
        }
        due("the others aren't", x.status(1), 0);
    }

    private static void calls() {
        sentence(0, "An object is used for at most 512 calls after it has been made; what later calls answer is free");
        RoundsPerHour x = new RoundsPerHour();
        for (int i = 0; i < 511; i++) {
            x.count(6);
        }
        due("the 512th call", x.status(-1), 511);
        RoundsPerHour y = new RoundsPerHour();
        for (int i = 0; i < 14; i++) {
            y.way(0, i % 2, 1 - i % 2, i, 1);
        }
        for (int i = 0; i < 497; i++) {
            due("call " + i, y.ringWays(), 3 << 12);
        }
        due("the 512th call is as the others", y.ring(0), 25);
    }
}
