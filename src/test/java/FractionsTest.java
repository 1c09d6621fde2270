/** Promises 23 to 25: fractions in rows. */
public final class FractionsTest {
    private static final long MIN = Long.MIN_VALUE, MAX = Long.MAX_VALUE;

    public static void main(String[] args) {
        wrong();
        compares();
        reduces();
        adds();
        Check.end(FractionsTest.class);
    }

    private static RoundsPerHour row(int bits, long... numbers) {
        RoundsPerHour x = new RoundsPerHour();
        x.sheet(1, bits, numbers.length);
        for (int i = 0; i < numbers.length; i++) {
            x.write(1, i, numbers[i]);
        }
        return x;
    }

    private static void has(String what, RoundsPerHour x, long... numbers) {
        for (int i = 0; i < numbers.length; i++) {
            Check.due(what + ", number " + i, x.read(1, i), numbers[i]);
        }
    }

    private static void wrong() {
        RoundsPerHour x = row(64, 1, 0, 3);
        for (int s : new int[] {-1, 4}) {
            Check.due("23: no such sheet", x.compare(s, 0, 0), Check.BEYOND);
            Check.due("24: no such sheet", x.reduce(s, 0), Check.L_BEYOND);
            Check.due("25: no such sheet", x.add(s, 0, 0), Check.BEYOND);
        }
        Check.due("23: missing ahead of places", x.compare(0, -1, 0), Check.MISSING);
        Check.due("24: missing ahead of places", x.reduce(0, -1), Check.L_MISSING);
        Check.due("25: missing ahead of places", x.add(0, -1, 0), Check.MISSING);
        for (int i : new int[] {-1, 2, 3, Integer.MAX_VALUE, Integer.MIN_VALUE}) {
            Check.due("23: first", x.compare(1, i, 1), Check.BEYOND);
            Check.due("23: second", x.compare(1, 1, i), Check.BEYOND);
            Check.due("23: places ahead of nought", x.compare(1, 0, i), Check.BEYOND);
            Check.due("24: places", x.reduce(1, i), Check.L_BEYOND);
            Check.due("25: first", x.add(1, i, 1), Check.BEYOND);
            Check.due("25: second", x.add(1, 1, i), Check.BEYOND);
            Check.due("25: places ahead of nought", x.add(1, i, 0), Check.BEYOND);
        }
        Check.due("23: nought", x.compare(1, 0, 1), Check.NOUGHT);
        Check.due("23: nought, second", x.compare(1, 1, 0), Check.NOUGHT);
        Check.due("24: nought", x.reduce(1, 0), Check.L_NOUGHT);
        Check.due("25: nought", x.add(1, 0, 1), Check.NOUGHT);
        Check.due("25: nought, second", x.add(1, 1, 0), Check.NOUGHT);
        has("findings change nothing", x, 1, 0, 3);
        RoundsPerHour y = row(64, MAX, 0, 1, MAX, MAX);
        Check.due("23: nought ahead of over", y.compare(1, 0, 2), Check.NOUGHT);
        Check.due("25: nought ahead of over", y.add(1, 3, 0), Check.NOUGHT);
        RoundsPerHour z = row(16);
        Check.due("23: a sheet of none", z.compare(1, 0, 0), Check.BEYOND);
        Check.due("23: findings", z.status(0), 1);
    }

    private static void compares() {
        RoundsPerHour x = row(64, 1, 2, 1, 3, -1, -2, 2, -4);
        Check.due("23: more", x.compare(1, 0, 2), 1);
        Check.due("23: less", x.compare(1, 2, 0), -1);
        Check.due("23: as much", x.compare(1, 0, 0), 0);
        Check.due("23: both below 0", x.compare(1, 0, 4), 0);
        Check.due("23: below 0 is less", x.compare(1, 6, 0), -1);
        Check.due("23: more than below 0", x.compare(1, 0, 6), 1);
        Check.due("23: -1/2 and 2/-4", x.compare(1, 4, 6), 1);
        Check.due("23: they may share a number", x.compare(1, 0, 1), -1);
        Check.due("23: 2/1 and 3/-1", x.compare(1, 1, 3), 1);
        has("23: nothing changes", x, 1, 2, 1, 3, -1, -2, 2, -4);
        RoundsPerHour y = row(64, MIN, 1, MIN, -1, 1, MIN, 1, 1);
        Check.due("23: lowest by 1", y.compare(1, 0, 6), -1);
        Check.due("23: lowest by -1 and 1", y.compare(1, 2, 6), 1);
        Check.due("23: MIN times -1 is over", y.compare(1, 0, 2), Check.OVER);
        Check.due("23: over the other way", y.compare(1, 2, 0), Check.OVER);
        Check.due("23: just within", y.compare(1, 4, 6), -1);
        Check.due("23: MIN times MIN", y.compare(1, 0, 4), Check.OVER);
        RoundsPerHour z = row(64, 3037000500L, 1, 1, 3037000500L, 3037000499L, 3037000499L);
        Check.due("23: just over", z.compare(1, 0, 2), Check.OVER);
        Check.due("23: just not over", z.compare(1, 4, 4), 0);
        RoundsPerHour w = row(32, Integer.MIN_VALUE, -1, Integer.MAX_VALUE, 1);
        Check.due("23: 32 bits are never over", w.compare(1, 0, 2), 1);
    }

    private static void reduces() {
        RoundsPerHour x = row(64, 12, -18, 0, -5, 7, 3, -6, -4);
        Check.due("24: by 6", x.reduce(1, 0), 6);
        Check.due("24: nothing above", x.reduce(1, 2), 5);
        Check.due("24: lowest already", x.reduce(1, 4), 1);
        Check.due("24: both below 0", x.reduce(1, 6), 2);
        has("24: lowest terms", x, -2, 3, 0, 1, 7, 3, 3, 2);
        long[][] over = {{MIN, -1}, {MIN, MIN}, {0, MIN}, {1, MIN}, {-3, MIN}, {MIN, -3}};
        for (long[] f : over) {
            RoundsPerHour y = row(64, f);
            Check.due("24: over " + f[0] + " by " + f[1], y.reduce(1, 0), Check.L_OVER);
            has("24: over changes nothing", y, f);
        }
        long[][] within = {{MIN, 1, 1, MIN, 1}, {MIN, 2, 2, MIN / 2, 1}, {MIN, -2, 2, 1L << 62, 1}, {6, MIN, 2, -3, 1L << 62},
            {MIN + 1, MIN + 1, MAX, 1, 1}, {MIN, 3, 1, MIN, 3}, {MAX, -1, 1, -MAX, 1}, {MIN, -6, 2, 1L << 62, 3},
            {7540113804746346429L, 4660046610375530309L, 1, 7540113804746346429L, 4660046610375530309L}};
        for (long[] f : within) {
            RoundsPerHour y = row(64, f[0], f[1]);
            Check.due("24: " + f[0] + " by " + f[1], y.reduce(1, 0), f[2]);
            has("24: " + f[0] + " by " + f[1], y, f[3], f[4]);
        }
        RoundsPerHour z = row(16, -32768, -1, -32768, -32768, 4, 6);
        Check.due("24: 16 bits", z.reduce(1, 0), 1);
        Check.due("24: 16 bits, all", z.reduce(1, 2), 32768);
        Check.due("24: 16 bits, shared", z.reduce(1, 4), 2);
        has("24: their lowest", z, -32768, 1, 1, 1, 2, 3);
        RoundsPerHour w = row(32, 5, Integer.MIN_VALUE);
        Check.due("24: 32 bits", w.reduce(1, 0), 1);
        has("24: 32 bits", w, -5, Integer.MIN_VALUE);
    }

    private static void adds() {
        RoundsPerHour x = row(64, 1, 2, 1, 3, 5, -6);
        Check.due("25: sum", x.add(1, 0, 2), 1);
        has("25: sum", x, 5, 6, 1, 3, 5, -6);
        Check.due("25: not lowest terms", x.add(1, 0, 4), 1);
        has("25: 0 by -36", x, 0, -36, 1, 3, 5, -6);
        Check.due("25: with itself", x.add(1, 2, 2), 1);
        has("25: twice", x, 0, -36, 6, 9, 5, -6);
        Check.due("25: they share a number", x.add(1, 2, 3), 1);
        has("25: 6/9 and 9/5", x, 0, -36, 6 * 5 + 9 * 9, 45, 5, -6);
        long[][] over = {{MAX, 1, 1, 2}, {1, MAX, 1, 2}, {1, 1, MAX, 2}, {1, MAX, 1, MAX}, {MAX, 1, 1, 1}, {MIN, 1, -1, 1},
            {MIN, 1, 0, -1}, {1, 4294967296L, 0, 2147483648L}, {1, 2, MAX, 1}};
        for (long[] f : over) {
            RoundsPerHour y = row(64, f);
            Check.due("25: over " + f[0] + "/" + f[1] + " " + f[2] + "/" + f[3], y.add(1, 0, 2), Check.OVER);
            has("25: over changes nothing", y, f);
        }
        RoundsPerHour z = row(64, MAX - 1, 1, 1, 1, MIN, 1, 0, 1);
        Check.due("25: just within", z.add(1, 0, 2), 1);
        Check.due("25: lowest", z.add(1, 4, 6), 1);
        has("25: ends", z, MAX, 1, 1, 1, MIN, 1);
        Check.due("25: lowest and highest", z.add(1, 0, 4), 1);
        has("25: -1", z, -1, 1);
        RoundsPerHour w = row(16, 300, 200, 400, 500);
        Check.due("25: 16 bits", w.add(1, 0, 2), 1);
        // 230000 by 100000, their lowest 16 bits.
        has("25: their lowest", w, (short) 230000, (short) 100000, 400, 500);
        RoundsPerHour v = row(16, 1, 256, 1, 256);
        Check.due("25: below may become 0", v.add(1, 0, 2), 1);
        has("25: 0 below", v, 512, 0);
        Check.due("25: nought then", v.add(1, 2, 0), Check.NOUGHT);
        RoundsPerHour u = row(32, 100000, 65536, 1, 65536);
        Check.due("25: 32 bits", u.add(1, 0, 2), 1);
        has("25: 32 bits, their lowest", u, (int) (100000L * 65536 + 65536), 0);
    }
}
