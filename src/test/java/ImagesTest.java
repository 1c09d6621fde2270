/** Promises 34 to 38: the image, counts, and what was found. */
public final class ImagesTest {
    public static void main(String[] args) {
        images();
        full();
        counts();
        status();
        Check.end(ImagesTest.class);
    }

    private static void images() {
        RoundsPerHour x = new RoundsPerHour();
        Check.due("35: nothing is kept", x.undo(), Check.NONE);
        Check.due("36: nothing was", x.tear(), 0);
        x.places(3);
        x.weather(2);
        x.way(3, 0, 2, 7, 8);
        x.change(0, 5, 1);
        x.thing(5, 6);
        x.alter(-1, 0, 9);
        x.alter(-1, 1, 4);
        Check.due("34: image", x.image(), 1);
        x.sheet(0, 64, 1);
        x.write(0, 0, 77);
        Check.feed(x, "abc");
        x.way(0, 1, 0, 1, 1);
        x.thing(1, 1);
        for (int what = 0; what < 6; what++) {
            x.change(0, what, new int[] {1, 1, 0, 5, 5, 0}[what]);
        }
        x.alter(0, 0, 1);
        x.alter(0, 1, 1);
        x.alter(-1, 0, 1);
        x.alter(-1, 1, 1);
        x.weather(5);
        x.places(6);
        int found = x.status(-1);
        Check.due("35: how many ways", x.undo(), 1);
        int[] counts = {3, 1, 1, 1, 2, 3};
        for (int what = 0; what < 6; what++) {
            Check.due("35: count " + what, x.count(what), counts[what]);
        }
        int[] way = {3, 0, 2, 7, 8, 1};
        for (int what = 0; what < 6; what++) {
            Check.due("35: way " + what, x.of(0, what), way[what]);
        }
        Check.due("35: thing's gain", x.its(0, 0), 5);
        Check.due("35: thing's time", x.its(0, 1), 6);
        Check.due("35: base's gain", x.its(-1, 0), 9);
        Check.due("35: base's time", x.its(-1, 1), 4);
        Check.due("35: no second way", x.of(1, 0), Check.BEYOND);
        Check.due("35: no second thing", x.its(1, 0), Check.BEYOND);
        Check.due("34: the sheet is not kept", x.read(0, 0), 77);
        Check.due("38: undo takes none back", x.status(-1), found + 2);
        x.weather(4);
        Check.due("35: it stays", x.undo(), 1);
        Check.due("35: as kept", x.count(4), 2);
        Check.due("35: a new way is open", x.way(0, 0, 1, 1, 1), 1);
        Check.due("35: not shut", x.of(1, 5), 0);
        Check.due("34: again", x.image(), 1);
        x.weather(1);
        Check.due("35: the latest", x.undo(), 2);
        Check.due("36: something was", x.tear(), 1);
        Check.due("36: nothing then", x.tear(), 0);
        Check.due("35: no older one", x.undo(), Check.NONE);
        Check.due("36: the rest stays", x.count(1), 2);
    }

    private static void full() {
        RoundsPerHour x = new RoundsPerHour();
        for (int i = 0; i < 14; i++) {
            x.way(0, 0, 1, i, i + 1);
            x.thing(i, i + 1);
        }
        x.image();
        for (int i = 0; i < 14; i++) {
            x.change(i, 3, 0);
            x.alter(Math.min(i, 11), 0, 99);
            x.alter(Math.min(i, 11), 1, 99);
        }
        Check.due("35: all ways", x.undo(), 14);
        Check.due("35: the last way", x.of(13, 3), 13);
        Check.due("35: the last thing's gain", x.its(11, 0), 11);
        Check.due("35: the last thing's time", x.its(11, 1), 12);
    }

    private static void counts() {
        RoundsPerHour x = new RoundsPerHour();
        Check.due("37: what 6", x.count(6), Check.BEYOND);
        Check.due("37: what -1", x.count(-1), Check.BEYOND);
        x.places(4);
        x.weather(3);
        for (int w = 0; w < 5; w++) {
            x.way(0, 0, 1, 0, 1);
            x.change(w, 5, w % 2);
        }
        x.thing(1, 1);
        x.feed(0, 3);
        int[] counts = {4, 5, 1, 2, 3, 3};
        for (int what = 0; what < 6; what++) {
            Check.due("37: what " + what, x.count(what), counts[what]);
        }
    }

    // One more of each finding each time, in the order of their words.
    private static void status() {
        RoundsPerHour x = new RoundsPerHour();
        for (int which = -1; which < 9; which++) {
            Check.due("38: none of " + which, x.status(which), 0);
        }
        x.places(9);
        Check.due("38: BEYOND", x.status(0), 1);
        for (int i = 0; i < 31; i++) {
            x.feed(0, 4);
        }
        Check.due("38: FULL", x.status(1), 1);
        x.way(0, 0, 1, 0, 1);
        x.as(0, 1);
        x.as(0, 2);
        Check.due("38: KIND", x.status(2), 2);
        x.ring(0);
        x.ringWays();
        x.tree(9);
        Check.due("38: NONE, of long and int", x.status(3), 2);
        x.ratio(1, 0, 0);
        Check.due("38: STATE", x.status(4), 1);
        x.read(0, 0);
        x.write(0, 0, 0);
        x.reduce(0, 0);
        Check.due("38: MISSING", x.status(5), 3);
        x.sheet(0, 64, -1);
        Check.due("38: SIZE", x.status(6), 1);
        x.sheet(0, 64, 2);
        x.reduce(0, 0);
        Check.due("38: NOUGHT", x.status(7), 1);
        x.write(0, 0, Long.MIN_VALUE);
        x.write(0, 1, -1);
        x.reduce(0, 0);
        x.compare(0, 0, 0);
        Check.due("38: OVER", x.status(8), 2);
        Check.due("38: BEYOND of tree", x.status(0), 2);
        Check.due("38: all", x.status(-1), 2 + 1 + 2 + 2 + 1 + 3 + 1 + 1 + 2);
        Check.due("38: another one", x.status(9), Check.BEYOND);
        Check.due("38: counted from then on", x.status(0), 3);
        Check.due("38: another one below", x.status(-2), Check.BEYOND);
        Check.due("38: all then", x.status(-1), 17);
        x.text();
        Check.due("38: a fault is no finding", x.status(-1), 17);
    }
}
