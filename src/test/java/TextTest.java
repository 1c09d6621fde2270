/** Promises 26 to 28: the tape, and texts. */
public final class TextTest {
    public static void main(String[] args) {
        tape();
        told();
        items();
        faults();
        limits();
        Check.end(TextTest.class);
    }

    private static void tape() {
        RoundsPerHour x = new RoundsPerHour();
        Check.due("26: n 0", x.feed(65, 0), Check.BEYOND);
        Check.due("26: n 5", x.feed(65, 5), Check.BEYOND);
        Check.due("26: n -1", x.feed(65, -1), Check.BEYOND);
        Check.due("26: one", x.feed(0x11223374, 1), 1);
        Check.due("26: two", x.feed(0x22336869, 2), 3);
        Check.due("26: another", x.feed(-256 + 'n', 1), 4);
        Check.due("26: how many", x.count(5), 4);
        Check.due("26: three", x.feed(0x7f673b20, 3), 7);
        // The three lowest bytes of this were "g; ".
        Check.due("26: four", x.feed(0x7468696e, 4), 11);
        Check.due("26: last", x.feed('g', 1), 12);
        Check.due("28: thing; thing", x.text(), 2);
        Check.due("28: the tape is empty", x.count(5), 0);
        Check.due("28: two things", x.count(2), 2);
        for (int i = 1; i <= 30; i++) {
            Check.due("26: by four", x.feed(0x20202020, 4), 4 * i);
        }
        Check.due("26: full", x.feed(1, 1), Check.FULL);
        Check.due("26: BEYOND ahead of FULL", x.feed(1, 0), Check.BEYOND);
        Check.due("27: wipe", x.wipe(), 120);
        Check.due("27: again", x.wipe(), 0);
        for (int i = 1; i <= 118; i++) {
            x.feed(' ', 1);
        }
        Check.due("26: no room for three", x.feed(1, 3), Check.FULL);
        Check.due("26: nothing came", x.count(5), 118);
        Check.due("26: room for two", x.feed(0x2020, 2), 120);
        Check.due("28: blanks alone", x.text(), -121);
        Check.due("28: empty after a fault", x.wipe(), 0);
        Check.due("26: findings", x.status(-1), 6);
        Check.due("28: an empty tape", x.text(), -1);
        Check.due("28: faults are no findings", x.status(-1), 6);
    }

    private static int tell(RoundsPerHour x, String text) {
        x.wipe();
        Check.feed(x, text);
        return x.text();
    }

    private static void told() {
        RoundsPerHour x = new RoundsPerHour();
        Check.due("28: items", tell(x, "places 4; weather 3;bridge 0 3 gain 12 time 5 shut ;mire 3 1 loss 7; thing time 9;way1 2"), 6);
        int[] counts = {4, 3, 1, 1, 3, 0};
        for (int what = 0; what < 6; what++) {
            Check.due("28: count " + what, x.count(what), counts[what]);
        }
        int[][] ways = {{3, 0, 3, 12, 5, 1}, {4, 3, 1, -7, 1, 0}, {0, 1, 2, 0, 1, 0}};
        for (int w = 0; w < 3; w++) {
            for (int what = 0; what < 6; what++) {
                Check.due("28: way " + w + ", " + what, x.of(w, what), ways[w][what]);
            }
        }
        Check.due("28: thing's gain", x.its(0, 0), 0);
        Check.due("28: thing's time", x.its(0, 1), 9);
        Check.due("28: base stays", x.its(-1, 1), 1);
        String[] words = {"way", "toll", "ford", "bridge", "mire", "stair"};
        for (int k = 0; k < 6; k++) {
            Check.due("28: " + words[k], tell(x, words[k] + " 0 1"), 1);
            Check.due("28: kind " + k, x.of(3 + k, 0), k);
        }
    }

    private static void items() {
        String[] good = {"weather 0", "weather 5", "places 2", "places 6", "places 5;places 5", "thing", "thing gain 0", "thing loss 0",
            "thing gain 999999 time 999999", "thing loss 999999", "thing time 1", "way 0 1", "way 1 0 shut", "way 0 1 gain 5 shut",
            "way 0 1 loss 5 time 3 shut", "way 0 1 time 3", "way 000 0000001", "thing gain 000000999999", "  thing  ", "thing;thing",
            "places 3;way 2 1", "weather00000000000000000005"};
        for (String text : good) {
            int items = text.split(";").length;
            Check.due("28: " + text, tell(new RoundsPerHour(), text), items);
        }
        RoundsPerHour x = new RoundsPerHour();
        tell(x, "thing loss 999999 time 999999;thing gain 1");
        Check.due("28: loss", x.its(0, 0), -999999);
        Check.due("28: time", x.its(0, 1), 999999);
        Check.due("28: gain", x.its(1, 0), 1);
        Check.due("28: time without", x.its(1, 1), 1);
    }

    // Each with the place of its fault.
    private static final Object[][] FAULTS = {
        {"", 0}, {"   ", 3}, {";", 0}, {"thing;", 6}, {"thing; ", 7}, {"thing;;thing", 6}, {"thing thing", 6}, {"5", 0}, {"road 0 1", 0},
        {"places", 6}, {"places ", 7}, {"places 1", 7}, {"places 7", 7}, {"places x", 7}, {"places;", 6}, {"places 1000000", 7},
        {"places 3;places 2", 16}, {"places 3 4", 9}, {"places 3 weather 1", 9}, {"Places 3", 0}, {"pLaces 3", 0}, {"placess 3", 0},
        {"weather 6", 8}, {"weather", 7}, {"weather -1", 8}, {"weather 99999999999999999999", 8}, {"weather 3.", 9},
        {"way", 3}, {"way 0", 5}, {"way 0 0", 6}, {"way 0 2", 6}, {"way 2 0", 4}, {"way 2", 4}, {"way gain 5", 4}, {"way 0 gain", 6},
        {"way 0 1 2", 8}, {"way 0 1 gain", 12}, {"way 0 1 gain gain", 13}, {"way 0 1 gain 1000000", 13}, {"way 0 1 gain 5 loss 5", 15},
        {"way 0 1 time 0", 13}, {"way 0 1 time 1000000", 13}, {"way 0 1 time", 12}, {"way 0 1 time 5 gain 5", 15}, {"way 0 1 time 5 time 5", 15},
        {"way 0 1 shut shut", 13}, {"way 0 1 shut time 5", 13}, {"way 0 1 shut gain 5", 13}, {"way 0 1 closed", 8}, {"way 0 1 shut 1", 13},
        {"way 0 1 loss -5", 13}, {"way 0 1 gain 1000001;#", 13}, {"thing shut", 6}, {"thing 0", 6}, {"thing gain x", 11}, {"thing time 0", 11},
        {"thing time 5 gain 5", 13}, {"thing\tgain 5", 5}, {"thing\n", 5}, {"#", 0}, {"thing #", 6}, {"thing \u00e9", 6}, {"thing \u0000", 6},
        {"way 0 3;places 4", 6}, {"places 4;way 0 4", 15}, {"things", 0}, {"thingz", 0}, {"bhing", 0}, {"vay 0 1", 0}, {"way 0 1 zhut", 8}, {"thinh", 0}, {"thin", 0}, {"thinggain", 0}, {"weather 1,weather 2", 9}, {"way 0 1gain5time3shutt", 17},
        {"thing gain 5:", 12}, {"thing gain /", 11}, {"thing `", 6}, {"thing {", 6}};

    private static void faults() {
        for (Object[] f : FAULTS) {
            RoundsPerHour x = new RoundsPerHour();
            x.thing(1, 2);
            Check.due("28: fault of \"" + f[0] + "\"", tell(x, (String) f[0]), -1 - (Integer) f[1]);
            Check.due("28: places", x.count(0), 2);
            Check.due("28: ways", x.count(1), 0);
            Check.due("28: things", x.count(2), 1);
            Check.due("28: weather", x.count(4), 0);
            Check.due("28: tape", x.count(5), 0);
            Check.due("28: findings", x.status(-1), 0);
        }
    }

    private static void limits() {
        RoundsPerHour x = new RoundsPerHour();
        for (int w = 0; w < 13; w++) {
            x.way(0, 0, 1, 0, 1);
        }
        for (int t = 0; t < 11; t++) {
            x.thing(0, 1);
        }
        Check.due("28: a 15th way", tell(x, "ford 0 1; toll 1 0; ?"), -1 - 10);
        Check.due("28: none came", x.count(1), 13);
        Check.due("28: a 14th way", tell(x, "ford 0 1"), 1);
        Check.due("28: a 15th", tell(x, "weather 1;stair 7 7"), -1 - 10);
        Check.due("28: weather not told", x.count(4), 0);
        Check.due("28: a 13th thing", tell(x, "thing;thing;"), -1 - 6);
        Check.due("28: a 12th thing", tell(x, "thing gain 3"), 1);
        Check.due("28: a 13th", tell(x, " thing x"), -1 - 1);
        Check.due("28: the others still", tell(x, "weather 2;places 6"), 2);
        Check.due("28: fewer places", tell(x, "places 5"), -1 - 7);
        StringBuilder sb = new StringBuilder();
        for (int i = 0; i < 12; i++) {
            sb.append("weather ").append(i % 6).append(i < 11 ? ";" : "");
        }
        Check.due("28: as long as can be", tell(x, sb + " "), 12);
        Check.due("28: item by item", x.count(4), 5);
    }
}
