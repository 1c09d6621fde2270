/** Promises 29 to 33: sheets. */
public final class SheetsTest {
    public static void main(String[] args) {
        sheets();
        numbers();
        copies();
        lays();
        Check.end(SheetsTest.class);
    }

    private static void sheets() {
        RoundsPerHour x = new RoundsPerHour();
        Check.due("29: sheet -1", x.sheet(-1, 64, 1), Check.BEYOND);
        Check.due("29: sheet 4", x.sheet(4, 64, 1), Check.BEYOND);
        for (int bits : new int[] {-16, 1, 8, 15, 17, 48, 65, 128}) {
            Check.due("29: bits " + bits, x.sheet(0, bits, 1), Check.BEYOND);
            Check.due("29: other bits ahead of SIZE", x.sheet(0, bits, -1), Check.BEYOND);
        }
        Check.due("29: below 0", x.sheet(0, 16, -1), Check.SIZE);
        Check.due("29: above 40", x.sheet(0, 16, 41), Check.BEYOND);
        Check.due("29: still missing", x.read(0, 0), Check.L_MISSING);
        Check.due("29: none", x.sheet(0, 16, 0), 0);
        Check.due("29: none, but there", x.read(0, 0), Check.L_BEYOND);
        Check.due("29: most", x.sheet(0, 32, 40), 40);
        Check.due("29: the last", x.write(0, 39, 7), 1);
        Check.due("29: read", x.read(0, 39), 7);
        Check.due("29: SIZE changes nothing", x.sheet(0, 64, Integer.MIN_VALUE), Check.SIZE);
        Check.due("29: read again", x.read(0, 39), 7);
        x.write(0, 0, 8);
        Check.due("29: anew", x.sheet(0, 32, 40), 40);
        Check.due("29: all 0", x.read(0, 39), 0);
        Check.due("29: the first, too", x.read(0, 0), 0);
        x.write(0, 5, 9);
        Check.due("29: shorter", x.sheet(0, 64, 3), 3);
        Check.due("29: longer", x.sheet(0, 64, 6), 6);
        Check.due("29: nothing is left of it", x.read(0, 5), 0);
        Check.due("29: missing, whatever n", x.sheet(0, 0, -5), 0);
        Check.due("29: missing, whatever n above", x.sheet(1, 0, 99), 0);
        Check.due("29: missing", x.read(0, 0), Check.L_MISSING);
    }

    private static void numbers() {
        RoundsPerHour x = new RoundsPerHour();
        Check.due("30: no such sheet", x.write(4, 0, 0), Check.BEYOND);
        Check.due("30: sheet -1", x.write(-1, 0, 0), Check.BEYOND);
        Check.due("30: missing ahead of number", x.write(3, -1, 0), Check.MISSING);
        Check.due("31: no such sheet", x.read(4, 0), Check.L_BEYOND);
        Check.due("31: sheet -1", x.read(-1, 0), Check.L_BEYOND);
        Check.due("31: missing ahead of number", x.read(3, -1), Check.L_MISSING);
        x.sheet(3, 16, 2);
        x.sheet(2, 32, 2);
        x.sheet(1, 64, 2);
        for (int i : new int[] {-1, 2, Integer.MAX_VALUE, Integer.MIN_VALUE}) {
            Check.due("30: number " + i, x.write(3, i, 1), Check.BEYOND);
            Check.due("31: number " + i, x.read(3, i), Check.L_BEYOND);
        }
        long[] all = {0, 1, -1, 32767, 32768, -32768, -32769, 65535, 65536, 2147483647L, 2147483648L, -2147483648L, -2147483649L,
            4294967295L, 4294967296L, Long.MAX_VALUE, Long.MIN_VALUE, -4000000000000000001L};
        for (long v : all) {
            for (int s = 1; s < 4; s++) {
                Check.due("30: write", x.write(s, 1, v), 1);
            }
            Check.due("31: 16 bits of " + v, x.read(3, 1), (short) v);
            Check.due("31: 32 bits of " + v, x.read(2, 1), (int) v);
            Check.due("31: 64 bits of " + v, x.read(1, 1), v);
            Check.due("31: its fellow stays", x.read(1, 0), 0);
        }
        Check.due("31: such a number is no finding", x.status(0), 4 + 8);
    }

    private static void copies() {
        RoundsPerHour x = new RoundsPerHour();
        Check.due("32: no such sheet", x.copy(4, 0, 0, 0, 0), Check.BEYOND);
        Check.due("32: no such other", x.copy(0, 0, -1, 0, 0), Check.BEYOND);
        Check.due("32: both missing", x.copy(0, -1, 1, 0, 0), Check.MISSING);
        x.sheet(0, 32, 6);
        Check.due("32: one missing", x.copy(0, 0, 1, 0, 0), Check.MISSING);
        Check.due("32: the other missing", x.copy(1, 0, 0, 0, 0), Check.MISSING);
        x.sheet(1, 64, 4);
        Check.due("32: not of as many bits, ahead of BEYOND", x.copy(0, -1, 1, 0, 0), Check.KIND);
        x.sheet(1, 32, 4);
        for (int i = 0; i < 6; i++) {
            x.write(0, i, 10 + i);
        }
        int max = Integer.MAX_VALUE;
        int[][] wrong = {{-1, 0, 1}, {0, -1, 1}, {0, 0, -1}, {3, 0, 4}, {0, 2, 3}, {0, 0, 5}, {max, 0, max}, {0, max, max}, {0, 0, max}, {max, max, 1},
            {7, 0, 0}, {0, 5, 0}, {Integer.MIN_VALUE, 0, 1}, {0, 0, Integer.MIN_VALUE}};
        for (int[] w : wrong) {
            Check.due("32: from " + w[0] + " to " + w[1] + " n " + w[2], x.copy(0, w[0], 1, w[1], w[2]), Check.BEYOND);
        }
        Check.due("32: none", x.copy(0, 6, 1, 4, 0), 0);
        Check.due("32: three", x.copy(0, 2, 1, 1, 3), 3);
        long[] other = {0, 12, 13, 14};
        for (int i = 0; i < 4; i++) {
            Check.due("32: came", x.read(1, i), other[i]);
        }
        Check.due("32: up", x.copy(0, 0, 0, 1, 5), 5);
        long[] up = {10, 10, 11, 12, 13, 14};
        for (int i = 0; i < 6; i++) {
            Check.due("32: as they all were", x.read(0, i), up[i]);
        }
        Check.due("32: sheet 5", x.copy(0, 0, 5, 0, 1), Check.BEYOND);
        Check.due("32: to sheet 4", x.copy(0, 0, 4, 0, 1), Check.BEYOND);
        x.sheet(3, 32, 1);
        Check.due("32: to the last sheet", x.copy(0, 5, 3, 0, 1), 1);
        Check.due("32: in the last sheet", x.copy(3, 0, 3, 0, 1), 1);
        Check.due("32: it came", x.read(3, 0), 14);
        Check.due("32: down", x.copy(0, 2, 0, 0, 4), 4);
        long[] down = {11, 12, 13, 14, 13, 14};
        for (int i = 0; i < 6; i++) {
            Check.due("32: down, as they were", x.read(0, i), down[i]);
        }
    }

    private static void lays() {
        RoundsPerHour x = new RoundsPerHour();
        Check.due("33: no such sheet", x.lays(4), Check.BEYOND);
        Check.due("33: sheet -1", x.lays(-1), Check.BEYOND);
        Check.due("33: missing", x.lays(0), Check.MISSING);
        x.sheet(0, 64, 6);
        Check.due("33: no ways", x.lays(0), 0);
        for (int w = 0; w < 4; w++) {
            x.way(w, 0, 1, 50 + w, 1);
        }
        x.change(3, 5, 1);
        long[] v = {999999999, 1000000000, -1000000000, -999999999, 5, 6};
        for (int i = 0; i < 6; i++) {
            x.write(0, i, v[i]);
        }
        Check.due("33: two came", x.lays(0), 2);
        int[] gains = {999999999, 51, 52, -999999999};
        for (int w = 0; w < 4; w++) {
            Check.due("33: gain " + w, x.of(w, 3), gains[w]);
        }
        x.write(0, 1, 4294967296L + 5);
        Check.due("33: not its lowest bits", x.lays(0), 2);
        Check.due("33: left out", x.of(1, 3), 51);
        x.sheet(1, 16, 2);
        x.write(1, 0, -7);
        Check.due("33: fewer numbers than ways", x.lays(1), 2);
        Check.due("33: first", x.of(0, 3), -7);
        Check.due("33: second", x.of(1, 3), 0);
        Check.due("33: third stays", x.of(2, 3), 52);
        x.sheet(1, 16, 0);
        Check.due("33: a sheet of none", x.lays(1), 0);
    }
}
