import java.util.ArrayList;
import java.util.LinkedHashMap;
import java.util.List;
import java.util.Map;

/**
 * What the tests of the document's edges share. Each test names a promise (0: the terms) and one sentence of it;
 * what is asked from there on counts for that sentence.
 */
abstract class Edge {
    static final int BEYOND = Check.BEYOND, FULL = Check.FULL, KIND = Check.KIND, NONE = Check.NONE, STATE = Check.STATE,
            MISSING = Check.MISSING, SIZE = Check.SIZE, NOUGHT = Check.NOUGHT, OVER = Check.OVER;
    static final long L_BEYOND = Check.L_BEYOND, L_NONE = Check.L_NONE, L_STATE = Check.L_STATE,
            L_MISSING = Check.L_MISSING, L_NOUGHT = Check.L_NOUGHT, L_OVER = Check.L_OVER;
    static final int LEAST = Integer.MIN_VALUE, MOST = Integer.MAX_VALUE;
    static final long MIN = Long.MIN_VALUE, MAX = Long.MAX_VALUE;
    static final int GAIN = 999999999, TIME = 999999;
    private static final long INT_LOW = -2000000001L, LONG_LOW = -4000000000000000001L;
    private static final int NO_FINDING = -1;

    interface Act {
        long on(RoundsPerHour x);
    }

    interface Make {
        void on(RoundsPerHour x);
    }

    private interface Look {
        List<Long> at(RoundsPerHour x);
    }

    /** How many answers were asked for each sentence. */
    static final Map<String, Integer> ASKED = new LinkedHashMap<>();
    private static String named = "";

    static void sentence(int promise, String words) {
        named = promise + ": " + words;
        ASKED.putIfAbsent(named, 0);
    }

    static void due(String what, long got, long want) {
        ASKED.merge(named, 1, Integer::sum);
        Check.due((named.startsWith("0:") ? "terms " : "promise ") + named + " | " + what, got, want);
    }

    /** A new object, made ready. */
    static RoundsPerHour made(Make ready) {
        RoundsPerHour x = new RoundsPerHour();
        ready.on(x);
        return x;
    }

    static void answers(String what, long want, Make ready, Act act) {
        due(what, act.on(made(ready)), want);
    }

    /** The act answers this finding, which is counted, and leaves all else as it was. */
    static void refused(String what, long finding, Make ready, Act act) {
        answers(what, finding, ready, act);
        int which = (int) (finding <= LONG_LOW ? LONG_LOW - finding : INT_LOW - finding);
        alike(what, x -> {
            ready.on(x);
            act.on(x);
        }, ready, which);
    }

    static void refused(String what, long finding, Act act) {
        refused(what, finding, Edge::rich, act);
    }

    /** The act answers this, and leaves all as it was. */
    static void asked(String what, long want, Make ready, Act act) {
        answers(what, want, ready, act);
        alike(what, x -> {
            ready.on(x);
            act.on(x);
        }, ready);
    }

    /** Objects made in these two ways can't be told from each other. */
    static void alike(String what, Make one, Make other) {
        alike(what, one, other, NO_FINDING);
    }

    // Looking at the tape and the image changes much, so that each look is at objects of its own.
    private static void alike(String what, Make one, Make other, int found) {
        List<Long> got = status(made(one));
        List<Long> want = status(made(other));
        if (found != NO_FINDING) {
            want.set(0, want.get(0) + 1);
            want.set(found + 1, want.get(found + 1) + 1);
        }
        due(what + ", what is counted " + got + want, got.equals(want) ? 1 : 0, 1);
        look(what + ", the country then", one, other, Edge::country);
        look(what + ", the sheets then", one, other, Edge::sheets);
        look(what + ", the tape then", one, other, x -> behind(x.text(), x));
        look(what + ", the image then", one, other, x -> behind(x.undo(), x));
    }

    private static void look(String what, Make one, Make other, Look look) {
        List<Long> got = look.at(made(one));
        List<Long> want = look.at(made(other));
        due(got.equals(want) ? what : what + " " + got + " and not " + want, got.equals(want) ? 1 : 0, 1);
    }

    private static List<Long> status(RoundsPerHour x) {
        List<Long> all = new ArrayList<>();
        for (int which = -1; which < 9; which++) {
            all.add((long) x.status(which));
        }
        return all;
    }

    private static List<Long> behind(long answer, RoundsPerHour x) {
        List<Long> all = country(x);
        all.add(answer);
        all.add((long) x.tear());
        return all;
    }

    static List<Long> country(RoundsPerHour x) {
        List<Long> all = new ArrayList<>();
        for (int what = 0; what < 6; what++) {
            all.add((long) x.count(what));
        }
        for (int w = 0; w < x.count(1); w++) {
            for (int what = 0; what < 6; what++) {
                all.add((long) x.of(w, what));
            }
        }
        for (int t = -1; t < x.count(2); t++) {
            all.add((long) x.its(t, 0));
            all.add((long) x.its(t, 1));
        }
        return all;
    }

    // How many bits a sheet has is seen from what is left of a number that needs 64.
    private static List<Long> sheets(RoundsPerHour x) {
        List<Long> all = new ArrayList<>();
        for (int s = 0; s < 4; s++) {
            int before = x.status(-1);
            for (int i = 0; i <= 40; i++) {
                long v = x.read(s, i);
                all.add(v);
                if (x.status(-1) != before) {
                    break;
                }
            }
            x.write(s, 0, 0x123456789abcdefL);
            all.add(x.read(s, 0));
        }
        return all;
    }

    static final String RICH_TAPE = "weather 1;thing gain 5 time 2";

    /**
     * Something of all, and an image that is unlike it in all. In weather 3 the ways bring 42, -6, 44, 12 (and 2, which is
     * SHUT) and last 6, 2, 12, 7 (and 2): of both rings ways 0 and 1 are better (9 by 2) than ways 0, 2 and 3 (98 by 25).
     * Nothing leads to place 4.
     */
    static void rich(RoundsPerHour x) {
        x.places(3);
        x.weather(2);
        x.way(2, 0, 2, 11, 4);
        x.thing(8, 5);
        x.alter(-1, 0, 6);
        x.alter(-1, 1, 9);
        x.image();
        x.places(5);
        x.weather(3);
        x.change(0, 0, 3);
        x.change(0, 2, 1);
        x.change(0, 3, 40);
        x.change(0, 4, 5);
        x.way(0, 1, 0, -6, 2);
        x.way(4, 1, 3, 70, 3);
        x.way(5, 3, 0, 12, 7);
        x.way(1, 2, 3, 9, 1);
        x.change(4, 5, 1);
        x.alter(0, 0, 14);
        x.thing(-3, 2);
        x.thing(20, 9);
        x.alter(-1, 0, 7);
        x.alter(-1, 1, 4);
        row(x, 0, 64, 6, -4, MAX, 0, 5, 10, MIN);
        row(x, 1, 32, 100, -200, 300, -400);
        row(x, 2, 16, 7, 8, 9);
        Check.feed(x, RICH_TAPE);
    }

    /** As much as there can be of ways, things, bytes and numbers; an image of a country without any. */
    static void full(RoundsPerHour x) {
        x.image();
        x.places(6);
        x.weather(5);
        for (int w = 0; w < 14; w++) {
            x.way(w % 6, w % 6, (w + 1) % 6, 10 + w, 1 + w);
        }
        for (int t = 0; t < 12; t++) {
            x.thing(20 + t, 2 + t);
        }
        x.feed(0x77656174, 4);
        x.feed(0x68657234, 4);
        for (int i = 2; i < 30; i++) {
            x.feed(0x20202020, 4);
        }
        x.sheet(0, 64, 40);
        x.write(0, 0, -7);
        x.write(0, 39, 77);
        x.sheet(1, 16, 0);
        x.sheet(2, 32, 1);
    }

    static void row(RoundsPerHour x, int s, int bits, long... numbers) {
        x.sheet(s, bits, numbers.length);
        for (int i = 0; i < numbers.length; i++) {
            x.write(s, i, numbers[i]);
        }
    }

    /** As it is when it is new. */
    static void bare(RoundsPerHour x) {
    }
}
