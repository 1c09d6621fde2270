import java.util.Arrays;

/** Promises 23 to 25 at their edges. */
final class FractionsEdges extends Edge {
    private static final String NO_SHEET = "BEYOND: no such sheet";
    private static final String NOT_BOTH = "BEYOND: the places of one aren't both there";
    private static final int[] NO_SHEETS = {-1, 4, LEAST, MOST};
    // The greatest number whose square is within 64 bits.
    private static final long ROOT = 3037000499L;

    private FractionsEdges() { }

    static void all() {
        compareTold();
        compareNoSheet();
        compareMissing();
        comparePlaces();
        compareNought();
        compareOver();
        reduceTold();
        reduceNoSheet();
        reduceMissing();
        reducePlaces();
        reduceNought();
        reduceOver();
        addTold();
        addNoSheet();
        addMissing();
        addPlaces();
        addNought();
        addOver();
    }

    // Sheet 1 has these numbers.
    private static Make numbers(int bits, long... v) {
        return x -> row(x, 1, bits, v);
    }

    // Sheet 2 has as many numbers as can be, all 1.
    private static void ones(RoundsPerHour x) {
        long[] v = new long[40];
        Arrays.fill(v, 1);
        row(x, 2, 64, v);
    }

    private static void has(String what, RoundsPerHour x, long... numbers) {
        for (int i = 0; i < numbers.length; i++) {
            due(what + ", number " + i, x.read(1, i), numbers[i]);
        }
    }

    private static void compared(int want, int bits, long a, long b, long c, long d) {
        Make ready = numbers(bits, a, b, c, d);
        String told = a + "/" + b + " and " + c + "/" + d;
        asked(told, want, ready, x -> x.compare(1, 0, 2));
        answers(told + ", turned", -want, ready, x -> x.compare(1, 2, 0));
    }

    private static void compareTold() {
        sentence(23, "-1, 0, 1: FRACTION i is less, as much, more than FRACTION j");
        compared(-1, 64, 1, 3, 1, 2);
        compared(0, 64, 2, 4, 1, 2);
        compared(-1, 64, -1, 2, 1, 2);
        compared(-1, 64, 1, -2, 1, 2);
        compared(0, 64, -1, -2, 1, 2);
        compared(-1, 64, 1, -2, -1, 3);
        compared(1, 64, -1, -2, -1, 2);
        compared(1, 64, 1, -3, 1, -2);
        compared(0, 64, 0, -5, 0, 7);
        compared(-1, 64, MIN, 1, MAX, 1);
        compared(1, 64, MIN, -1, 1, 1);
        compared(1, 64, MIN + 1, -1, MAX - 1, 1);
        compared(-1, 64, MAX - 1, MAX, 1, 1);
        compared(-1, 64, 1, MAX, 1, MAX - 1);
        compared(1, 32, Integer.MIN_VALUE, -1, Integer.MAX_VALUE, 1);
        compared(-1, 16, -32768, 1, 32767, -1);
        Make three = numbers(64, 5, 3, 2);
        answers("they share a place: 5/3 and 3/2", 1, three, x -> x.compare(1, 0, 1));
        answers("with itself", 0, three, x -> x.compare(1, 1, 1));
        answers("the last ones of forty", 0, FractionsEdges::ones, x -> x.compare(2, 38, 38));
        answers("the last sheet", 0, x -> row(x, 3, 16, 1, 1), x -> x.compare(3, 0, 0));
    }

    private static void compareNoSheet() {
        sentence(23, NO_SHEET);
        for (int s : NO_SHEETS) {
            refused("compare(" + s + ", 0, 0)", BEYOND, x -> x.compare(s, 0, 0));
            refused("whatever the places, compare(" + s + ", -1, -1)", BEYOND, x -> x.compare(s, -1, -1));
        }
    }

    private static void compareMissing() {
        sentence(23, "MISSING");
        refused("compare(3, 0, 0)", MISSING, x -> x.compare(3, 0, 0));
        refused("ahead of BEYOND", MISSING, x -> x.compare(3, -1, MOST));
        for (int s = 0; s < 4; s++) {
            int sheet = s;
            refused("at first, sheet " + s, MISSING, Edge::bare, x -> x.compare(sheet, 0, 0));
        }
        refused("missing again", MISSING, x -> {
            rich(x);
            x.sheet(1, 0, 4);
        }, x -> x.compare(1, 0, 2));
    }

    private static void comparePlaces() {
        sentence(23, NOT_BOTH);
        // Sheet 0 has seven numbers, so that the last FRACTION is 5; what is below FRACTION 2 is 0.
        for (int i : new int[] {-1, 6, 7, LEAST, MOST}) {
            refused("compare(0, " + i + ", 4)", BEYOND, x -> x.compare(0, i, 4));
            refused("compare(0, 4, " + i + ")", BEYOND, x -> x.compare(0, 4, i));
            refused("compare(0, " + i + ", " + i + ")", BEYOND, x -> x.compare(0, i, i));
            refused("ahead of NOUGHT, compare(0, " + i + ", 2)", BEYOND, x -> x.compare(0, i, 2));
            refused("ahead of NOUGHT, compare(0, 2, " + i + ")", BEYOND, x -> x.compare(0, 2, i));
        }
        answers("the last two places", 1, Edge::rich, x -> x.compare(1, 1, 2));
        refused("one number alone", BEYOND, numbers(64, 1), x -> x.compare(1, 0, 0));
        refused("no number", BEYOND, numbers(64), x -> x.compare(1, 0, 0));
        refused("no number, -1", BEYOND, numbers(64), x -> x.compare(1, -1, -1));
        refused("39 of 40", BEYOND, Edge::full, x -> x.compare(0, 39, 38));
    }

    private static void compareNought() {
        sentence(23, "NOUGHT: what is below one is 0");
        refused("the first", NOUGHT, x -> x.compare(0, 2, 0));
        refused("the other", NOUGHT, x -> x.compare(0, 0, 2));
        refused("both", NOUGHT, x -> x.compare(0, 2, 2));
        refused("0 by 0", NOUGHT, numbers(16, 0, 0, 1, 1), x -> x.compare(1, 0, 2));
        Make over = numbers(64, MAX, 0, MAX, MAX);
        refused("ahead of OVER", NOUGHT, over, x -> x.compare(1, 0, 2));
        refused("the other, ahead of OVER", NOUGHT, over, x -> x.compare(1, 2, 0));
        answers("what is above may be 0", -1, numbers(64, 0, 1, 1, 1), x -> x.compare(1, 0, 2));
    }

    private static void over(long a, long b, long c, long d) {
        Make ready = numbers(64, a, b, c, d);
        refused(a + "/" + b + " and " + c + "/" + d, OVER, ready, x -> x.compare(1, 0, 2));
        refused(a + "/" + b + " and " + c + "/" + d + ", turned", OVER, ready, x -> x.compare(1, 2, 0));
    }

    private static void compareOver() {
        sentence(23, "OVER: a product of what is above one by what is below the other isn't within 64 bits");
        over(MAX, 1, 1, 2);
        over(MIN, 1, 1, 2);
        over(MIN, 1, 1, -1);
        over(-1, MIN, 1, MIN);
        over(1L << 62, 1, 1, 2);
        over(-(1L << 62), 1, 1, -2);
        over(-(1L << 62) - 1, 1, 1, 2);
        over(ROOT + 1, 1, 1, ROOT + 1);
        over(-ROOT - 1, 1, 1, ROOT + 1);
        over(MAX, 1, 0, MAX);
        over(MIN, -1, MIN, -1);
        over(1L << 32, 1, 1, 1L << 32);
        over(1L << 32, 1, 1, 1L << 31);
        compared(1, 64, ROOT, 1, 1, ROOT);
        compared(-1, 64, -(1L << 62), 1, 1, 2);
        compared(1, 64, 1L << 62, 1, 1, -2);
        compared(-1, 64, -(1L << 32), 1, 1, 1L << 31);
        compared(1, 64, (1L << 62) - 1, 1, 1, 2);
        compared(-1, 64, 0, MIN, 1, 1);
        // Products of what is above both, or below both, are not asked for.
        compared(0, 64, MAX, 1, MAX, 1);
        compared(0, 64, 1, MAX, 1, MAX);
    }

    private static void reduced(int bits, long a, long b, long by, long above, long below) {
        String told = a + "/" + b + " in " + bits + " bits";
        Make ready = x -> {
            row(x, 1, bits, 33, a, b, 44);
        };
        RoundsPerHour x = made(ready);
        due(told, x.reduce(1, 1), by);
        has(told, x, 33, above, below, 44);
        due(told + ", no finding", x.status(-1), 0);
    }

    private static void reduceTold() {
        sentence(24, "FRACTION i is brought to lowest terms, what is below being above 0 (in a sheet of fewer bits their lowest): by how much both were divided, but for the sign (a number above 0)");
        reduced(64, 12, 18, 6, 2, 3);
        reduced(64, 12, -18, 6, -2, 3);
        reduced(64, -12, 18, 6, -2, 3);
        reduced(64, -12, -18, 6, 2, 3);
        reduced(64, 7, 3, 1, 7, 3);
        reduced(64, 7, -3, 1, -7, 3);
        reduced(64, 0, 5, 5, 0, 1);
        reduced(64, 0, -5, 5, 0, 1);
        reduced(64, 0, MAX, MAX, 0, 1);
        reduced(64, 0, MIN + 1, MAX, 0, 1);
        reduced(64, 1, 1, 1, 1, 1);
        reduced(64, -1, -1, 1, 1, 1);
        reduced(64, MAX, MAX, MAX, 1, 1);
        reduced(64, MIN + 1, MAX, MAX, -1, 1);
        reduced(64, MIN, 1, 1, MIN, 1);
        reduced(64, MIN, 2, 2, MIN / 2, 1);
        reduced(64, MIN, MAX, 1, MIN, MAX);
        reduced(64, MAX, -1, 1, -MAX, 1);
        // The longest way to a divisor: two that follow each other in 1, 1, 2, 3, 5, 8, ..
        reduced(64, 7540113804746346429L, 4660046610375530309L, 1, 7540113804746346429L, 4660046610375530309L);
        reduced(64, -4660046610375530309L, -7540113804746346429L, 1, 4660046610375530309L, 7540113804746346429L);
        reduced(16, 1, -32768, 1, -1, -32768);
        reduced(16, -32768, -1, 1, -32768, 1);
        reduced(16, -32768, -32768, 32768, 1, 1);
        reduced(16, 0, -32768, 32768, 0, 1);
        reduced(16, -32768, -3, 1, -32768, 3);
        reduced(16, 32767, -32767, 32767, -1, 1);
        reduced(32, 1, Integer.MIN_VALUE, 1, -1, Integer.MIN_VALUE);
        reduced(32, Integer.MIN_VALUE, -1, 1, Integer.MIN_VALUE, 1);
        reduced(32, Integer.MIN_VALUE, Integer.MIN_VALUE, 2147483648L, 1, 1);
        reduced(32, Integer.MIN_VALUE, 6, 2, -1073741824, 3);
        RoundsPerHour x = made(FractionsEdges::ones);
        x.write(2, 38, 10);
        x.write(2, 39, -4);
        due("the last one of forty", x.reduce(2, 38), 2);
        due("the last one, above", x.read(2, 38), -5);
        due("the last one, below", x.read(2, 39), 2);
        RoundsPerHour y = made(z -> row(z, 3, 32, -6, -3));
        due("the last sheet", y.reduce(3, 0), 3);
        due("the last sheet, above", y.read(3, 0), 2);
    }

    private static void reduceNoSheet() {
        sentence(24, NO_SHEET);
        for (int s : NO_SHEETS) {
            refused("reduce(" + s + ", 0)", L_BEYOND, x -> x.reduce(s, 0));
            refused("whatever the place, reduce(" + s + ", -1)", L_BEYOND, x -> x.reduce(s, -1));
        }
    }

    private static void reduceMissing() {
        sentence(24, "MISSING");
        refused("reduce(3, 0)", L_MISSING, x -> x.reduce(3, 0));
        refused("ahead of BEYOND", L_MISSING, x -> x.reduce(3, -1));
        refused("ahead of BEYOND, above", L_MISSING, x -> x.reduce(3, MOST));
        for (int s = 0; s < 4; s++) {
            int sheet = s;
            refused("at first, sheet " + s, L_MISSING, Edge::bare, x -> x.reduce(sheet, 0));
        }
    }

    private static void reducePlaces() {
        sentence(24, "BEYOND: the places aren't both there");
        for (int i : new int[] {-1, 6, 7, LEAST, MOST}) {
            refused("reduce(0, " + i + ")", L_BEYOND, x -> x.reduce(0, i));
        }
        answers("the last two places", 2, Edge::rich, x -> {
            x.write(0, 6, 4);
            return x.reduce(0, 5);
        });
        refused("one number alone", L_BEYOND, numbers(64, 1), x -> x.reduce(1, 0));
        refused("no number", L_BEYOND, numbers(64), x -> x.reduce(1, 0));
        refused("no number, -1", L_BEYOND, numbers(64), x -> x.reduce(1, -1));
        refused("39 of 40", L_BEYOND, Edge::full, x -> x.reduce(0, 39));
        refused("40 of 40", L_BEYOND, Edge::full, x -> x.reduce(0, 40));
    }

    private static void reduceNought() {
        sentence(24, "NOUGHT: what is below is 0");
        refused("MAX by 0", L_NOUGHT, x -> x.reduce(0, 2));
        for (int bits : new int[] {16, 32, 64}) {
            refused("0 by 0", L_NOUGHT, numbers(bits, 0, 0), x -> x.reduce(1, 0));
            refused("1 by 0", L_NOUGHT, numbers(bits, 1, 0), x -> x.reduce(1, 0));
        }
        // 0 divides MIN by 2 to the 63rd: NOUGHT is asked ahead of OVER.
        refused("ahead of OVER", L_NOUGHT, numbers(64, MIN, 0), x -> x.reduce(1, 0));
    }

    private static void reduceOver() {
        sentence(24, "OVER: one of these numbers (what is told, too) isn't within 64 bits");
        long[][] over = {{MIN, -1}, {MIN, -3}, {MIN, MIN + 1}, {1, MIN}, {-1, MIN}, {MAX, MIN}, {3, MIN}, {MIN, MIN}, {0, MIN}};
        for (long[] f : over) {
            refused(f[0] + " by " + f[1], L_OVER, numbers(64, f), x -> x.reduce(1, 0));
        }
        reduced(64, MIN, -2, 2, 1L << 62, 1);
        reduced(64, MIN, -6, 2, 1L << 62, 3);
        reduced(64, 2, MIN, 2, -1, 1L << 62);
        reduced(64, -6, MIN, 2, 3, 1L << 62);
        reduced(64, MIN, MIN / 2, 1L << 62, 2, 1);
        reduced(64, MIN / 2, MIN, 1L << 62, 1, 2);
        reduced(64, MIN + 1, -1, 1, MAX, 1);
        reduced(64, 1, MIN + 1, 1, -1, MAX);
    }

    private static void added(int bits, long a, long b, long c, long d, long above, long below) {
        String told = a + "/" + b + " and " + c + "/" + d + " in " + bits + " bits";
        RoundsPerHour x = made(numbers(bits, a, b, c, d, 5));
        due(told, x.add(1, 0, 2), 1);
        has(told, x, above, below, c, d, 5);
        RoundsPerHour y = made(numbers(bits, 5, c, d, a, b));
        due(told + ", turned", y.add(1, 3, 1), 1);
        has(told + ", turned", y, 5, c, d, above, below);
        due(told + ", no finding", x.status(-1) + y.status(-1), 0);
    }

    private static void addTold() {
        sentence(25, "FRACTION i becomes the sum of both: above the sum of both products of what is above one by what is below the other, below the product of what is below (in a sheet of fewer bits their lowest): 1");
        added(64, 1, 2, 1, 3, 5, 6);
        added(64, 1, 2, 1, 2, 4, 4);
        added(64, 1, 2, -1, 2, 0, 4);
        added(64, 1, -2, 1, 3, 1, -6);
        added(64, 1, -2, 1, -3, -5, 6);
        added(64, 0, 1, 0, -1, 0, -1);
        added(16, 32767, 1, 1, 1, -32768, 1);
        added(16, -32768, 1, -1, 1, 32767, 1);
        added(16, 1, 256, 1, 256, 512, 0);
        added(16, 300, 200, 400, 500, (short) 230000, (short) 100000);
        added(16, -32768, -32768, -32768, -32768, -32768L * -32768 * 2 % 65536, 0);
        added(32, Integer.MAX_VALUE, 1, 1, 1, Integer.MIN_VALUE, 1);
        added(32, 1, 65536, 0, 65536, 65536, 0);
        added(32, Integer.MIN_VALUE, -1, 0, -1, Integer.MIN_VALUE, 1);
        RoundsPerHour x = made(numbers(64, 3, 5, 7));
        due("with itself", x.add(1, 0, 0), 1);
        has("with itself", x, 30, 25, 7);
        RoundsPerHour y = made(numbers(64, 3, 5, 7));
        due("3/5 and 5/7, which share a place", y.add(1, 0, 1), 1);
        has("3/5 and 5/7", y, 3 * 7 + 5 * 5, 35, 7);
        RoundsPerHour z = made(numbers(64, 3, 5, 7));
        due("5/7 and 3/5, which share a place", z.add(1, 1, 0), 1);
        has("5/7 and 3/5", z, 3, 5 * 5 + 3 * 7, 35);
        RoundsPerHour w = made(FractionsEdges::ones);
        due("the last one of forty", w.add(2, 38, 0), 1);
        due("the last one, above", w.read(2, 38), 2);
        due("the last one, below", w.read(2, 39), 1);
        due("the other one stays", w.read(2, 0), 1);
        answers("the last sheet", 1, v -> row(v, 3, 16, 1, 1), v -> v.add(3, 0, 0));
    }

    private static void addNoSheet() {
        sentence(25, NO_SHEET);
        for (int s : NO_SHEETS) {
            refused("add(" + s + ", 0, 0)", BEYOND, x -> x.add(s, 0, 0));
            refused("whatever the places, add(" + s + ", -1, -1)", BEYOND, x -> x.add(s, -1, -1));
        }
    }

    private static void addMissing() {
        sentence(25, "MISSING");
        refused("add(3, 0, 0)", MISSING, x -> x.add(3, 0, 0));
        refused("ahead of BEYOND", MISSING, x -> x.add(3, -1, MOST));
        for (int s = 0; s < 4; s++) {
            int sheet = s;
            refused("at first, sheet " + s, MISSING, Edge::bare, x -> x.add(sheet, 0, 0));
        }
    }

    private static void addPlaces() {
        sentence(25, NOT_BOTH);
        for (int i : new int[] {-1, 6, 7, LEAST, MOST}) {
            refused("add(0, " + i + ", 4)", BEYOND, x -> x.add(0, i, 4));
            refused("add(0, 4, " + i + ")", BEYOND, x -> x.add(0, 4, i));
            refused("add(0, " + i + ", " + i + ")", BEYOND, x -> x.add(0, i, i));
            refused("ahead of NOUGHT, add(0, " + i + ", 2)", BEYOND, x -> x.add(0, i, 2));
            refused("ahead of NOUGHT, add(0, 2, " + i + ")", BEYOND, x -> x.add(0, 2, i));
        }
        answers("the last two places", 1, Edge::rich, x -> x.add(1, 2, 2));
        refused("one number alone", BEYOND, numbers(64, 1), x -> x.add(1, 0, 0));
        refused("no number", BEYOND, numbers(64), x -> x.add(1, 0, 0));
        refused("39 of 40", BEYOND, Edge::full, x -> x.add(0, 38, 39));
    }

    private static void addNought() {
        sentence(25, "NOUGHT: what is below one is 0");
        refused("the first", NOUGHT, x -> x.add(0, 2, 0));
        refused("the other", NOUGHT, x -> x.add(0, 0, 2));
        refused("both", NOUGHT, x -> x.add(0, 2, 2));
        Make over = numbers(64, MAX, 0, MAX, MAX);
        refused("ahead of OVER", NOUGHT, over, x -> x.add(1, 0, 2));
        refused("the other, ahead of OVER", NOUGHT, over, x -> x.add(1, 2, 0));
        // What was added in 16 bits can be 0 below.
        refused("below the lowest bits", NOUGHT, x -> {
            numbers(16, 1, 256, 1, 256).on(x);
            x.add(1, 0, 2);
        }, x -> x.add(1, 0, 2));
    }

    private static void addOver() {
        sentence(25, "OVER: one of these products, their sum isn't within 64 bits");
        // One product alone: above by below, the other way, below by below; then the sum alone.
        long[][] over = {{MAX, 1, 0, 2}, {0, 2, MAX, 1}, {0, MAX, 0, 2}, {0, 2, 0, MAX}, {MIN, 1, 0, -1}, {0, -1, MIN, 1}, {0, MIN, 0, -1}, {0, -1, 0, MIN},
            {1L << 62, 1, 0, 2}, {0, 1L << 62, 0, 2}, {0, ROOT + 1, 0, ROOT + 1}, {0, ROOT + 1, 0, -ROOT - 1}, {0, 1L << 32, 0, 1L << 32},
            {MAX, 1, 1, 1}, {1, 1, MAX, 1}, {MIN, 1, -1, 1}, {-1, 1, MIN, 1}, {MAX, 1, MAX, 1}, {MIN, 1, MIN, 1}, {1L << 62, 1, 1L << 62, 1}};
        for (long[] f : over) {
            refused(f[0] + "/" + f[1] + " and " + f[2] + "/" + f[3], OVER, numbers(64, f), x -> x.add(1, 0, 2));
        }
        added(64, MAX, 1, 0, 1, MAX, 1);
        added(64, MIN, 1, 0, 1, MIN, 1);
        added(64, MAX - 1, 1, 1, 1, MAX, 1);
        added(64, MIN + 1, 1, -1, 1, MIN, 1);
        added(64, MAX, 1, MIN, 1, -1, 1);
        added(64, -(1L << 62), 1, -(1L << 62), 1, MIN, 1);
        added(64, -(1L << 62), 1, 0, 2, MIN, 2);
        added(64, 0, -(1L << 62), 0, 2, 0, MIN);
        added(64, 0, ROOT, 0, ROOT, 0, ROOT * ROOT);
        added(64, 0, MIN, 0, 1, 0, MIN);
        // Of 32 bits no product is over, but one sum is, that of twice 2 to the 62nd.
        long low = Integer.MIN_VALUE;
        refused("32 bits", OVER, numbers(32, low, low, low, low), x -> x.add(1, 0, 2));
        refused("32 bits, with itself", OVER, numbers(32, low, low), x -> x.add(1, 0, 0));
        added(32, low, low, low, low + 1, low, low);
        added(32, low, Integer.MAX_VALUE, low, Integer.MAX_VALUE, 0, 1);
    }
}
