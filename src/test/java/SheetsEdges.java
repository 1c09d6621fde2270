/** Promises 29 to 33 at their edges. */
final class SheetsEdges extends Edge {
    private static final String NO_SHEET = "BEYOND: no such sheet";
    private static final String NO_NUMBER = "BEYOND: no such number";
    private static final int[] NO_SHEETS = {-1, 4, LEAST, MOST};

    private SheetsEdges() { }

    static void all() {
        sheetTold();
        sheetBeyond();
        sheetSize();
        sheetTooMany();
        writeTold();
        writeNoSheet();
        writeMissing();
        writeNoNumber();
        readTold();
        readNoSheet();
        readMissing();
        readNoNumber();
        copyTold();
        copyNoSheet();
        copyMissing();
        copyKind();
        copyBeyond();
        laysTold();
        laysNoSheet();
        laysMissing();
    }

    private static void has(String what, RoundsPerHour x, int s, long... numbers) {
        for (int i = 0; i < numbers.length; i++) {
            due(what + ", number " + i, x.read(s, i), numbers[i]);
        }
        due(what + ", and no more", x.read(s, numbers.length), L_BEYOND);
    }

    private static void sheetTold() {
        sentence(29, "A sheet has n numbers, all 0, of 16, 32 or 64 bits; bits 0: it is MISSING: n (0 if it is MISSING)");
        for (int bits : new int[] {16, 32, 64}) {
            for (int n : new int[] {0, 1, 2, 39, 40}) {
                for (int s = 0; s < 4; s += 3) {
                    RoundsPerHour x = made(Edge::rich);
                    due("sheet(" + s + ", " + bits + ", " + n + ")", x.sheet(s, bits, n), n);
                    has("all 0", x, s, new long[n]);
                }
            }
        }
        // Nothing is left of what it had, though it has as many numbers as before.
        RoundsPerHour x = made(Edge::rich);
        due("anew", x.sheet(0, 64, 7), 7);
        has("anew", x, 0, 0, 0, 0, 0, 0, 0, 0);
        RoundsPerHour y = made(Edge::rich);
        due("shorter", y.sheet(0, 64, 1), 1);
        due("and longer", y.sheet(0, 64, 7), 7);
        has("longer", y, 0, 0, 0, 0, 0, 0, 0, 0);
        RoundsPerHour z = made(Edge::rich);
        due("MISSING", z.sheet(0, 0, 5), 0);
        due("no number", z.read(0, 0), L_MISSING);
        due("there again", z.sheet(0, 16, 2), 2);
        has("there again", z, 0, 0, 0);
        due("the others stay", z.read(1, 3), -400);
        due("MISSING already", z.sheet(3, 0, 5), 0);
        due("of no numbers it isn't MISSING", z.sheet(3, 16, 0), 0);
        due("it is there", z.read(3, 0), L_BEYOND);
    }

    private static void sheetBeyond() {
        sentence(29, "BEYOND: no such sheet, other bits");
        for (int s : NO_SHEETS) {
            for (int bits : new int[] {0, 16, 64}) {
                refused("sheet(" + s + ", " + bits + ", 1)", BEYOND, x -> x.sheet(s, bits, 1));
                refused("ahead of SIZE, sheet(" + s + ", " + bits + ", -1)", BEYOND, x -> x.sheet(s, bits, -1));
            }
        }
        for (int bits : new int[] {-1, 1, 8, 15, 17, 31, 33, 48, 63, 65, 128, -16, -32, -64, LEAST, MOST}) {
            refused("sheet(0, " + bits + ", 1)", BEYOND, x -> x.sheet(0, bits, 1));
            refused("ahead of SIZE, sheet(0, " + bits + ", -1)", BEYOND, x -> x.sheet(0, bits, -1));
        }
    }

    private static void sheetSize() {
        sentence(29, "SIZE: n is below 0 (with bits 0 it doesn't matter)");
        for (int bits : new int[] {16, 32, 64}) {
            for (int n : new int[] {-1, LEAST}) {
                refused("sheet(0, " + bits + ", " + n + ")", SIZE, x -> x.sheet(0, bits, n));
                refused("sheet(3, " + bits + ", " + n + ")", SIZE, x -> x.sheet(3, bits, n));
            }
        }
        for (int n : new int[] {-1, LEAST}) {
            RoundsPerHour x = made(Edge::rich);
            due("sheet(0, 0, " + n + ")", x.sheet(0, 0, n), 0);
            due("no finding", x.status(-1), 0);
            due("MISSING", x.read(0, 0), L_MISSING);
        }
        answers("0 isn't below 0", 0, Edge::rich, x -> x.sheet(0, 64, 0));
    }

    private static void sheetTooMany() {
        sentence(29, "BEYOND: n is above 40 (nor here)");
        for (int bits : new int[] {16, 32, 64}) {
            for (int n : new int[] {41, MOST}) {
                refused("sheet(0, " + bits + ", " + n + ")", BEYOND, x -> x.sheet(0, bits, n));
                refused("sheet(3, " + bits + ", " + n + ")", BEYOND, x -> x.sheet(3, bits, n));
            }
        }
        for (int n : new int[] {41, MOST}) {
            RoundsPerHour x = made(Edge::rich);
            due("sheet(0, 0, " + n + ")", x.sheet(0, 0, n), 0);
            due("no finding", x.status(-1), 0);
            due("MISSING", x.read(0, 0), L_MISSING);
        }
        answers("40 isn't above 40", 40, Edge::rich, x -> x.sheet(0, 64, 40));
    }

    private static final long[] NUMBERS = {0, 1, -1, 32767, 32768, 32769, -32768, -32769, 65535, 65536, 2147483647L, 2147483648L, -2147483648L, -2147483649L,
        4294967295L, 4294967296L, MAX, MIN, -4000000000000000000L, -4000000000000000001L, -4000000000000000009L};
    private static final long[] OF_16 = {0, 1, -1, 32767, -32768, -32767, -32768, 32767, -1, 0, -1, 0, 0, -1, -1, 0, -1, 0, 0, -1, -9};
    private static final long[] OF_32 = {0, 1, -1, 32767, 32768, 32769, -32768, -32769, 65535, 65536, 2147483647L, -2147483648L, -2147483648L, 2147483647L,
        -1, 0, -1, 0, 1651507200, 1651507199, 1651507191};

    private static void writeTold() {
        sentence(30, "Number i of a sheet becomes v (its lowest bits): 1");
        RoundsPerHour x = new RoundsPerHour();
        for (int s = 0; s < 3; s++) {
            due("sheet " + s, x.sheet(s, 16 << s, 3), 3);
        }
        for (int i = 0; i < NUMBERS.length; i++) {
            for (int s = 0; s < 3; s++) {
                due("write(" + s + ", 1, " + NUMBERS[i] + ")", x.write(s, 1, NUMBERS[i]), 1);
            }
            due("16 bits of " + NUMBERS[i], x.read(0, 1), OF_16[i]);
            due("32 bits of " + NUMBERS[i], x.read(1, 1), OF_32[i]);
            due("64 bits of " + NUMBERS[i], x.read(2, 1), NUMBERS[i]);
        }
        for (int s = 0; s < 3; s++) {
            due("the one ahead stays", x.read(s, 0), 0);
            due("the next one stays", x.read(s, 2), 0);
        }
        due("no finding", x.status(-1), 0);
        RoundsPerHour y = made(Edge::full);
        due("the first of forty", y.write(0, 0, 5), 1);
        due("the last of forty", y.write(0, 39, 6), 1);
        due("the first", y.read(0, 0), 5);
        due("the last", y.read(0, 39), 6);
        RoundsPerHour z = made(v -> row(v, 3, 64, 1, 2));
        due("the last sheet", z.write(3, 1, 7), 1);
        due("the last sheet's number", z.read(3, 1), 7);
    }

    private static void writeNoSheet() {
        sentence(30, NO_SHEET);
        for (int s : NO_SHEETS) {
            refused("write(" + s + ", 0, 1)", BEYOND, x -> x.write(s, 0, 1));
            refused("whatever the number, write(" + s + ", -1, 1)", BEYOND, x -> x.write(s, -1, 1));
        }
    }

    private static void writeMissing() {
        sentence(30, "MISSING");
        for (int s = 0; s < 4; s++) {
            int sheet = s;
            refused("at first, write(" + s + ", 0, 1)", MISSING, Edge::bare, x -> x.write(sheet, 0, 1));
        }
        for (int i : new int[] {0, -1, 40, LEAST, MOST}) {
            refused("ahead of BEYOND, write(3, " + i + ", 1)", MISSING, x -> x.write(3, i, 1));
        }
    }

    private static void writeNoNumber() {
        sentence(30, NO_NUMBER);
        for (int i : new int[] {-1, 7, 40, LEAST, MOST}) {
            refused("write(0, " + i + ", 1)", BEYOND, x -> x.write(0, i, 1));
        }
        refused("40 of 40", BEYOND, Edge::full, x -> x.write(0, 40, 1));
        refused("0 of none", BEYOND, Edge::full, x -> x.write(1, 0, 1));
        refused("1 of 1", BEYOND, Edge::full, x -> x.write(2, 1, 1));
        answers("the last one", 1, Edge::rich, x -> x.write(0, 6, 1));
    }

    private static void readTold() {
        sentence(31, "Number i of a sheet (any number)");
        long[] first = {6, -4, MAX, 0, 5, 10, MIN};
        for (int i = 0; i < 7; i++) {
            int which = i;
            asked("read(0, " + i + ")", first[i], Edge::rich, x -> x.read(0, which));
        }
        // Numbers that look like findings are none.
        for (long v : new long[] {MIN, -4000000000000000000L, L_BEYOND, L_OVER, -2000000001, -2000000009}) {
            asked("any number, " + v, v, x -> row(x, 1, 64, 1, v), x -> x.read(1, 1));
        }
        asked("32 bits", Integer.MIN_VALUE, x -> row(x, 1, 32, Integer.MIN_VALUE), x -> x.read(1, 0));
        asked("16 bits", -32768, x -> row(x, 1, 16, -32768), x -> x.read(1, 0));
        asked("the last of forty", 77, Edge::full, x -> x.read(0, 39));
        asked("the last sheet", 9, x -> row(x, 3, 16, 8, 9), x -> x.read(3, 1));
    }

    private static void readNoSheet() {
        sentence(31, NO_SHEET);
        for (int s : NO_SHEETS) {
            refused("read(" + s + ", 0)", L_BEYOND, x -> x.read(s, 0));
            refused("whatever the number, read(" + s + ", -1)", L_BEYOND, x -> x.read(s, -1));
        }
    }

    private static void readMissing() {
        sentence(31, "MISSING");
        for (int s = 0; s < 4; s++) {
            int sheet = s;
            refused("at first, read(" + s + ", 0)", L_MISSING, Edge::bare, x -> x.read(sheet, 0));
        }
        for (int i : new int[] {0, -1, 40, LEAST, MOST}) {
            refused("ahead of BEYOND, read(3, " + i + ")", L_MISSING, x -> x.read(3, i));
        }
    }

    private static void readNoNumber() {
        sentence(31, NO_NUMBER);
        for (int i : new int[] {-1, 7, 40, LEAST, MOST}) {
            refused("read(0, " + i + ")", L_BEYOND, x -> x.read(0, i));
        }
        refused("40 of 40", L_BEYOND, Edge::full, x -> x.read(0, 40));
        refused("0 of none", L_BEYOND, Edge::full, x -> x.read(1, 0));
        refused("1 of 1", L_BEYOND, Edge::full, x -> x.read(2, 1));
    }

    // Sheets 0 and 1, both of 32 bits.
    private static void two(RoundsPerHour x) {
        row(x, 0, 32, 1, 2, 3, 4, 5, 6);
        row(x, 1, 32, 10, 20, 30, 40);
    }

    private static void copied(String what, int from, int t, int to, int n, long... want) {
        RoundsPerHour x = made(SheetsEdges::two);
        due(what, x.copy(0, from, t, to, n), n);
        has(what, x, t, want);
        if (t != 0) {
            has(what + ", the first one stays", x, 0, 1, 2, 3, 4, 5, 6);
        }
        due(what + ", no finding but those of reading on", x.status(-1), t == 0 ? 1 : 2);
    }

    private static void copyTold() {
        sentence(32, "n numbers of a sheet from one on come to another one from one on (as they all were): n");
        copied("none", 0, 1, 0, 0, 10, 20, 30, 40);
        copied("none, at both ends", 6, 1, 4, 0, 10, 20, 30, 40);
        copied("one", 5, 1, 3, 1, 10, 20, 30, 6);
        copied("as many as it has", 2, 1, 0, 4, 3, 4, 5, 6);
        copied("some", 1, 1, 2, 2, 10, 20, 2, 3);
        copied("in one, up", 0, 0, 1, 5, 1, 1, 2, 3, 4, 5);
        copied("in one, down", 1, 0, 0, 5, 2, 3, 4, 5, 6, 6);
        copied("in one, by more than one, up", 0, 0, 2, 4, 1, 2, 1, 2, 3, 4);
        copied("in one, by more than one, down", 2, 0, 0, 4, 3, 4, 5, 6, 5, 6);
        copied("in one, where it is", 0, 0, 0, 6, 1, 2, 3, 4, 5, 6);
        for (int bits : new int[] {16, 32, 64}) {
            RoundsPerHour x = made(y -> {
                row(y, 2, bits, 7, -8);
                y.sheet(3, bits, 40);
            });
            due("to the end of forty, " + bits + " bits", x.copy(2, 0, 3, 38, 2), 2);
            due("it came", x.read(3, 39), -8);
            due("all forty", x.copy(3, 0, 3, 0, 40), 40);
            due("back", x.copy(3, 38, 2, 0, 2), 2);
            has("as it was", x, 2, 7, -8);
        }
        answers("none of none", 0, Edge::full, x -> x.copy(1, 0, 1, 0, 0));
    }

    private static void copyNoSheet() {
        sentence(32, "BEYOND: no such sheet (either)");
        for (int s : NO_SHEETS) {
            refused("copy(" + s + ", 0, 0, 0, 1)", BEYOND, x -> x.copy(s, 0, 0, 0, 1));
            refused("copy(0, 0, " + s + ", 0, 1)", BEYOND, x -> x.copy(0, 0, s, 0, 1));
            refused("ahead of MISSING, copy(" + s + ", 0, 3, 0, 1)", BEYOND, x -> x.copy(s, 0, 3, 0, 1));
            refused("ahead of MISSING, copy(3, 0, " + s + ", 0, 1)", BEYOND, x -> x.copy(3, 0, s, 0, 1));
            refused("whatever the numbers, copy(" + s + ", -1, " + s + ", -1, -1)", BEYOND, x -> x.copy(s, -1, s, -1, -1));
        }
    }

    private static void copyMissing() {
        sentence(32, "MISSING: one is");
        refused("the first", MISSING, x -> x.copy(3, 0, 0, 0, 1));
        refused("the other", MISSING, x -> x.copy(0, 0, 3, 0, 1));
        refused("both", MISSING, x -> x.copy(3, 0, 3, 0, 0));
        refused("ahead of BEYOND", MISSING, x -> x.copy(3, -1, 0, -1, -1));
        refused("ahead of BEYOND, the other", MISSING, x -> x.copy(0, MOST, 3, MOST, MOST));
        refused("at first", MISSING, Edge::bare, x -> x.copy(0, 0, 1, 0, 0));
    }

    private static void copyKind() {
        sentence(32, "KIND: they are not of as many bits");
        int[] bits = {64, 32, 16};
        for (int s = 0; s < 3; s++) {
            for (int t = 0; t < 3; t++) {
                int from = s;
                int to = t;
                if (s != t) {
                    String told = bits[s] + " bits to " + bits[t];
                    refused(told, KIND, x -> x.copy(from, 0, to, 0, 1));
                    refused(told + ", none", KIND, x -> x.copy(from, 0, to, 0, 0));
                    refused(told + ", ahead of BEYOND", KIND, x -> x.copy(from, -1, to, 0, 1));
                    refused(told + ", ahead of BEYOND, too many", KIND, x -> x.copy(from, 0, to, 0, MOST));
                }
            }
        }
    }

    private static void copyBeyond() {
        sentence(32, "BEYOND: one has not so many, or from, to or n is below 0");
        // Of six numbers to four.
        int[][] wrong = {{3, 0, 4}, {6, 0, 1}, {5, 0, 2}, {0, 0, 5}, {0, 1, 4}, {0, 3, 2}, {0, 4, 1}, {0, 0, 7}, {-1, 0, 1}, {0, -1, 1}, {0, 0, -1},
            {-1, 0, 0}, {0, -1, 0}, {-1, -1, -1}, {1, 1, -1}, {7, 0, 0}, {0, 5, 0},
            {MOST, 0, 1}, {0, MOST, 1}, {0, 0, MOST}, {1, 1, MOST}, {MOST, MOST, MOST}, {MOST, 0, 0}, {0, MOST, 0}, {LEAST, 0, 1}, {0, LEAST, 1}, {0, 0, LEAST},
            {LEAST, LEAST, LEAST}, {LEAST, 0, MOST}, {6, 0, MOST - 5}, {-1, 0, 2}};
        for (int[] v : wrong) {
            refused("copy(0, " + v[0] + ", 1, " + v[1] + ", " + v[2] + ")", BEYOND, SheetsEdges::two, x -> x.copy(0, v[0], 1, v[1], v[2]));
        }
        refused("in one", BEYOND, SheetsEdges::two, x -> x.copy(0, 0, 0, 1, 6));
        refused("one of none", BEYOND, Edge::full, x -> x.copy(1, 0, 1, 0, 1));
        refused("41 of 40", BEYOND, Edge::full, x -> x.copy(0, 0, 0, 0, 41));
    }

    private static Make gains(int bits, long... v) {
        return x -> {
            rich(x);
            row(x, 3, bits, v);
        };
    }

    // How many come, and the GAINS of the rich one's five WAYS then.
    private static void laid(String what, int came, Make ready, int... want) {
        RoundsPerHour x = made(ready);
        due(what, x.lays(3), came);
        for (int w = 0; w < want.length; w++) {
            due(what + ", GAIN " + w, x.of(w, 3), want[w]);
        }
        due(what + ", WAYS", x.count(1), want.length);
        due(what + ", no finding", x.status(-1), 0);
    }

    private static void laysTold() {
        sentence(33, "Numbers of a sheet become GAINS of WAYS 0, 1, .. (those that aren't -999999999 to 999999999, or stand for none, are left out): how many came");
        laid("no numbers", 0, gains(64), 40, -6, 70, 12, 9);
        laid("one", 1, gains(16, 5), 5, -6, 70, 12, 9);
        laid("as many as WAYS, one of them SHUT", 5, gains(32, 1, 2, 3, 4, 5), 1, 2, 3, 4, 5);
        laid("one more than WAYS", 5, gains(64, 1, 2, 3, 4, 5, 6), 1, 2, 3, 4, 5);
        laid("at the ends", 4, gains(64, GAIN, -GAIN, 0, -1), GAIN, -GAIN, 0, -1, 9);
        laid("just beyond", 1, gains(64, GAIN + 1, -GAIN - 1, 3), 40, -6, 3, 12, 9);
        laid("just beyond, 32 bits", 1, gains(32, GAIN + 1, 3, -GAIN - 1), 40, 3, 70, 12, 9);
        laid("far beyond", 1, gains(64, MAX, MIN, 4294967296L, 4294967301L, 7), 40, -6, 70, 12, 7);
        laid("none within", 0, gains(64, MAX, MIN, 1L << 32, -(1L << 32), GAIN + 1), 40, -6, 70, 12, 9);
        RoundsPerHour x = made(y -> {
            full(y);
            y.write(0, 13, 5);
            y.write(0, 14, 6);
        });
        due("forty numbers, fourteen WAYS", x.lays(0), 14);
        due("the first", x.of(0, 3), -7);
        due("the last", x.of(13, 3), 5);
        asked("no WAYS", 0, y -> row(y, 0, 64, 1, 2), y -> y.lays(0));
        // Nothing else of the WAYS changes, nor the sheet.
        alike("GAINS alone", y -> {
            gains(64, 1, MAX, 2).on(y);
            y.lays(3);
        }, y -> {
            gains(64, 1, MAX, 2).on(y);
            y.change(0, 3, 1);
            y.change(2, 3, 2);
        });
    }

    private static void laysNoSheet() {
        sentence(33, NO_SHEET);
        for (int s : NO_SHEETS) {
            refused("lays(" + s + ")", BEYOND, x -> x.lays(s));
        }
    }

    private static void laysMissing() {
        sentence(33, "MISSING");
        refused("lays(3)", MISSING, x -> x.lays(3));
        for (int s = 0; s < 4; s++) {
            int sheet = s;
            refused("at first, lays(" + s + ")", MISSING, Edge::bare, x -> x.lays(sheet));
        }
        refused("missing again", MISSING, x -> {
            rich(x);
            x.sheet(0, 0, 0);
        }, x -> x.lays(0));
    }
}
