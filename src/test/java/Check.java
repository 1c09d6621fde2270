/** Counts answers that are not as due, and tells them. */
final class Check {
    private static int asked = 0;
    private static int wrong = 0;

    // Findings, by their words: of ints, and of longs.
    static final int BEYOND = -2000000001, FULL = -2000000002, KIND = -2000000003, NONE = -2000000004,
            STATE = -2000000005, MISSING = -2000000006, SIZE = -2000000007, NOUGHT = -2000000008, OVER = -2000000009;
    static final long L_BEYOND = -4000000000000000001L, L_NONE = -4000000000000000004L, L_STATE = -4000000000000000005L,
            L_MISSING = -4000000000000000006L, L_NOUGHT = -4000000000000000008L, L_OVER = -4000000000000000009L;

    private Check() { }

    static void due(String what, long got, long want) {
        asked++;
        if (got != want) {
            wrong++;
            System.out.println(what + ": answered " + got + ", due is " + want);
        }
    }

    /** Feeds a text to THE TAPE, byte by byte. */
    static void feed(RoundsPerHour x, String text) {
        for (int i = 0; i < text.length(); i++) {
            x.feed(text.charAt(i), 1);
        }
    }

    static void end(Class<?> test) {
        System.out.println(test.getSimpleName() + ": " + asked + " answers, " + wrong + " not as due");
        if (wrong != 0) {
            System.exit(1);
        }
    }
}
