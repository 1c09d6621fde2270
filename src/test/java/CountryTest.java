/** Promises 1 to 10: a new object, places, weather, ways, things. */
public final class CountryTest {
    public static void main(String[] args) {
        newObject();
        places();
        weather();
        ways();
        of();
        change();
        as();
        things();
        Check.end(CountryTest.class);
    }

    private static void newObject() {
        RoundsPerHour x = new RoundsPerHour();
        Check.due("1: places", x.count(0), 2);
        Check.due("1: ways", x.count(1), 0);
        Check.due("1: things", x.count(2), 0);
        Check.due("1: shut", x.count(3), 0);
        Check.due("1: weather", x.count(4), 0);
        Check.due("1: tape", x.count(5), 0);
        Check.due("1: base gain", x.its(-1, 0), 0);
        Check.due("1: base time", x.its(-1, 1), 1);
        Check.due("1: no findings", x.status(-1), 0);
        for (int s = 0; s < 4; s++) {
            Check.due("1: sheet missing", x.read(s, 0), Check.L_MISSING);
        }
        Check.due("1: no image", x.tear(), 0);
        Check.due("1: nothing to undo", x.undo(), Check.NONE);
        Check.due("1: objects are apart", new RoundsPerHour().status(-1), 0);
    }

    private static void places() {
        RoundsPerHour x = new RoundsPerHour();
        Check.due("2: up", x.places(6), 2);
        Check.due("2: least", x.places(2), 6);
        Check.due("2: too few", x.places(1), Check.BEYOND);
        Check.due("2: too many", x.places(7), Check.BEYOND);
        Check.due("2: stays", x.count(0), 2);
        x.places(5);
        x.way(0, 0, 3, 1, 1);
        Check.due("2: a way's TO", x.places(3), Check.STATE);
        Check.due("2: just enough", x.places(4), 5);
        Check.due("2: the same", x.places(4), 4);
        x.change(0, 5, 1);
        Check.due("2: a shut way counts", x.places(2), Check.STATE);
        Check.due("2: BEYOND is asked first", x.places(1), Check.BEYOND);
        x.change(0, 2, 1);
        x.change(0, 1, 3);
        Check.due("2: a way's FROM", x.places(3), Check.STATE);
        x.change(0, 1, 2);
        Check.due("2: now it can", x.places(3), 4);
        Check.due("2: findings", x.status(4), 3);
    }

    private static void weather() {
        RoundsPerHour x = new RoundsPerHour();
        Check.due("3: most", x.weather(5), 0);
        Check.due("3: least", x.weather(0), 5);
        Check.due("3: below", x.weather(-1), Check.BEYOND);
        Check.due("3: above", x.weather(6), Check.BEYOND);
        Check.due("3: stays", x.count(4), 0);
    }

    private static void ways() {
        RoundsPerHour x = new RoundsPerHour();
        Check.due("4: kind below", x.way(-1, 0, 1, 0, 1), Check.BEYOND);
        Check.due("4: kind above", x.way(6, 0, 1, 0, 1), Check.BEYOND);
        Check.due("4: from below", x.way(0, -1, 1, 0, 1), Check.BEYOND);
        Check.due("4: from above", x.way(0, 2, 1, 0, 1), Check.BEYOND);
        Check.due("4: to below", x.way(0, 0, -1, 0, 1), Check.BEYOND);
        Check.due("4: to above", x.way(0, 0, 2, 0, 1), Check.BEYOND);
        Check.due("4: one and the same", x.way(0, 1, 1, 0, 1), Check.BEYOND);
        Check.due("4: gain below", x.way(0, 0, 1, -1000000000, 1), Check.BEYOND);
        Check.due("4: gain above", x.way(0, 0, 1, 1000000000, 1), Check.BEYOND);
        Check.due("4: time below", x.way(0, 0, 1, 0, 0), Check.BEYOND);
        Check.due("4: time above", x.way(0, 0, 1, 0, 1000000), Check.BEYOND);
        Check.due("4: none made", x.count(1), 0);
        Check.due("4: least", x.way(0, 0, 1, -999999999, 1), 0);
        Check.due("4: most", x.way(5, 1, 0, 999999999, 999999), 1);
        for (int w = 2; w < 14; w++) {
            Check.due("4: number", x.way(w % 6, w % 2, 1 - w % 2, w, w), w);
        }
        Check.due("4: full", x.way(0, 0, 1, 0, 1), Check.FULL);
        Check.due("4: BEYOND ahead of FULL", x.way(0, 0, 1, 0, 0), Check.BEYOND);
        Check.due("4: fourteen", x.count(1), 14);
        Check.due("4: none is shut", x.count(3), 0);
    }

    // BRINGS and LASTS of gain 100, time 10, by kind and weather.
    private static final int[][] BRINGS = {
        {100, 100, 100, 100, 100, 100}, {93, 93, 93, 93, 93, 93}, {100, 95, 90, 85, 80, 75},
        {93, 96, 99, 102, 105, 108}, {89, 84, 79, 74, 69, 64}, {109, 100, 109, 100, 109, 100}};
    private static final int[][] LASTS = {
        {10, 10, 10, 10, 10, 10}, {11, 11, 11, 11, 11, 11}, {10, 11, 12, 13, 14, 15},
        {11, 11, 11, 11, 11, 11}, {20, 22, 24, 26, 28, 30}, {10, 10, 10, 10, 12, 12}};

    private static void of() {
        RoundsPerHour x = new RoundsPerHour();
        x.places(3);
        for (int k = 0; k < 6; k++) {
            x.way(k, 2, 1, 100, 10);
        }
        for (int v = 0; v < 6; v++) {
            x.weather(v);
            for (int k = 0; k < 6; k++) {
                Check.due("5: brings, kind " + k + " weather " + v, x.of(k, 6), BRINGS[k][v]);
                Check.due("5: lasts, kind " + k + " weather " + v, x.of(k, 7), LASTS[k][v]);
            }
        }
        int[] told = {4, 2, 1, 100, 10, 0};
        for (int what = 0; what < 6; what++) {
            Check.due("5: what " + what, x.of(4, what), told[what]);
        }
        x.change(4, 5, 1);
        Check.due("5: shut", x.of(4, 5), 1);
        Check.due("5: shut brings", x.of(4, 6), 64);
        Check.due("5: no such way", x.of(6, 0), Check.BEYOND);
        Check.due("5: way -1", x.of(-1, 0), Check.BEYOND);
        Check.due("5: what -1", x.of(0, -1), Check.BEYOND);
        Check.due("5: what 8", x.of(0, 8), Check.BEYOND);
        x.change(3, 3, 999999999);
        x.change(4, 3, -999999999);
        x.change(4, 4, 999999);
        Check.due("5: most", x.of(3, 6), 1000000007);
        Check.due("5: least", x.of(4, 6), -1000000035);
        Check.due("5: longest", x.of(4, 7), 2000008);
    }

    private static void change() {
        RoundsPerHour x = new RoundsPerHour();
        x.places(4);
        x.way(1, 0, 2, 30, 4);
        int[] now = {1, 0, 2, 30, 4, 0};
        int[][] good = {{5, 0}, {3, 1}, {0, 3}, {-999999999, 999999999}, {999999, 1}, {1, 0}};
        int[][] bad = {{-1, 6}, {-1, 4}, {-1, 4}, {-1000000000, 1000000000}, {0, 1000000}, {-1, 2}};
        for (int what = 0; what < 6; what++) {
            for (int v : bad[what]) {
                Check.due("6: wrong " + what, x.change(0, what, v), Check.BEYOND);
            }
            Check.due("6: not changed " + what, x.of(0, what), now[what]);
            Check.due("6: what it was " + what, x.change(0, what, good[what][0]), now[what]);
            Check.due("6: became " + what, x.of(0, what), good[what][0]);
            Check.due("6: and then " + what, x.change(0, what, good[what][1]), good[what][0]);
        }
        Check.due("6: FROM as TO", x.change(0, 1, x.of(0, 2)), Check.BEYOND);
        Check.due("6: TO as FROM", x.change(0, 2, x.of(0, 1)), Check.BEYOND);
        Check.due("6: the same again", x.change(0, 1, x.of(0, 1)), x.of(0, 1));
        Check.due("6: no such way", x.change(1, 3, 0), Check.BEYOND);
        Check.due("6: way -1", x.change(-1, 3, 0), Check.BEYOND);
        Check.due("6: what 6", x.change(0, 6, 0), Check.BEYOND);
        Check.due("6: what -1", x.change(0, -1, 0), Check.BEYOND);
    }

    private static void as() {
        RoundsPerHour x = new RoundsPerHour();
        // Of a kind in a row: 1 where it counts as that of the column.
        int[][] is = {{1, 0, 0, 0, 0, 0}, {1, 1, 0, 0, 0, 0}, {1, 0, 1, 0, 0, 0},
            {1, 1, 0, 1, 0, 0}, {1, 0, 1, 0, 1, 0}, {1, 0, 0, 0, 0, 1}};
        for (int k = 0; k < 6; k++) {
            x.way(k, 0, 1, 50 + k, 1);
        }
        x.weather(3);
        for (int k = 0; k < 6; k++) {
            for (int as = 0; as < 6; as++) {
                Check.due("7: kind " + k + " as " + as, x.as(k, as), is[k][as] == 1 ? 50 + k : Check.KIND);
            }
        }
        Check.due("7: no such way", x.as(6, 0), Check.BEYOND);
        Check.due("7: way -1", x.as(-1, 0), Check.BEYOND);
        Check.due("7: kind 6", x.as(0, 6), Check.BEYOND);
        Check.due("7: kind -1", x.as(0, -1), Check.BEYOND);
        Check.due("7: findings", x.status(2), 36 - 13);
    }

    private static void things() {
        RoundsPerHour x = new RoundsPerHour();
        Check.due("8: gain below", x.thing(-1000000000, 1), Check.BEYOND);
        Check.due("8: gain above", x.thing(1000000000, 1), Check.BEYOND);
        Check.due("8: time below", x.thing(0, 0), Check.BEYOND);
        Check.due("8: time above", x.thing(0, 1000000), Check.BEYOND);
        Check.due("8: least", x.thing(-999999999, 1), 0);
        Check.due("8: most", x.thing(999999999, 999999), 1);
        for (int t = 2; t < 12; t++) {
            Check.due("8: number", x.thing(t, t), t);
        }
        Check.due("8: full", x.thing(0, 1), Check.FULL);
        Check.due("8: BEYOND ahead of FULL", x.thing(0, 0), Check.BEYOND);
        Check.due("9: gain", x.alter(11, 0, -5), 11);
        Check.due("9: time", x.alter(11, 1, 77), 11);
        Check.due("9: base gain", x.alter(-1, 0, 999999999), 0);
        Check.due("9: base time", x.alter(-1, 1, 999999), 1);
        Check.due("9: gain beyond", x.alter(0, 0, 1000000000), Check.BEYOND);
        Check.due("9: gain below", x.alter(0, 0, -1000000000), Check.BEYOND);
        Check.due("9: time beyond", x.alter(0, 1, 1000000), Check.BEYOND);
        Check.due("9: time below", x.alter(-1, 1, 0), Check.BEYOND);
        Check.due("9: thing -2", x.alter(-2, 0, 0), Check.BEYOND);
        Check.due("9: thing 12", x.alter(12, 0, 0), Check.BEYOND);
        Check.due("9: what 2", x.alter(0, 2, 1), Check.BEYOND);
        Check.due("9: what -1", x.alter(0, -1, 1), Check.BEYOND);
        Check.due("10: gain", x.its(11, 0), -5);
        Check.due("10: time", x.its(11, 1), 77);
        Check.due("10: first", x.its(0, 0), -999999999);
        Check.due("10: base gain", x.its(-1, 0), 999999999);
        Check.due("10: base time", x.its(-1, 1), 999999);
        Check.due("10: thing -2", x.its(-2, 0), Check.BEYOND);
        Check.due("10: thing 12", x.its(12, 0), Check.BEYOND);
        Check.due("10: what 2", x.its(0, 2), Check.BEYOND);
        Check.due("10: what -1", x.its(0, -1), Check.BEYOND);
    }
}
