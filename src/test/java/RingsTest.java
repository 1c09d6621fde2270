/** Promises 11 to 18: what is asked of rings. */
public final class RingsTest {
    public static void main(String[] args) {
        none();
        two();
        ties();
        lifts();
        worths();
        raises();
        loses();
        kinds();
        seasons();
        dense();
        Check.end(RingsTest.class);
    }

    private static void none() {
        RoundsPerHour x = new RoundsPerHour();
        Check.due("11: BEYOND ahead of NONE", x.ring(2), Check.L_BEYOND);
        Check.due("11: what -1", x.ring(-1), Check.L_BEYOND);
        Check.due("11: none", x.ring(0), Check.L_NONE);
        Check.due("12: none", x.ringWays(), Check.NONE);
        Check.due("13: BEYOND ahead of NONE", x.lift(0, 2), Check.L_BEYOND);
        Check.due("13: none", x.lift(0, 0), Check.L_NONE);
        Check.due("14: none", x.worth(0), Check.L_NONE);
        Check.due("15: no such way", x.raise(0), Check.BEYOND);
        Check.due("16: none", x.lose(), Check.NONE);
        Check.due("17: no such way", x.kind(0), Check.BEYOND);
        Check.due("18: none", x.season(), Check.NONE);
        x.places(3);
        x.way(0, 0, 1, 5, 1);
        x.way(0, 1, 2, 5, 1);
        x.way(0, 0, 2, 5, 1);
        Check.due("11: no way back", x.ring(1), Check.L_NONE);
        Check.due("15: no way back", x.raise(0), Check.NONE);
        Check.due("16: no way back", x.lose(), Check.NONE);
        Check.due("17: no way back", x.kind(0), Check.NONE);
        Check.due("17: way -1", x.kind(-1), Check.BEYOND);
        Check.due("17: way 3", x.kind(3), Check.BEYOND);
        Check.due("15: way -1", x.raise(-1), Check.BEYOND);
        Check.due("15: way 3", x.raise(3), Check.BEYOND);
        Check.due("findings of each", x.status(0) * 100 + x.status(3), 9 * 100 + 10);
    }

    // Two rings that meet in place 0: ways 0, 1 bring 6 in 4; ways 2, 3, 4 bring 10 in 6.
    private static RoundsPerHour eight() {
        RoundsPerHour x = new RoundsPerHour();
        x.places(4);
        x.way(0, 0, 1, 4, 3);
        x.way(0, 1, 0, 2, 1);
        x.way(0, 0, 2, 1, 1);
        x.way(0, 2, 3, 2, 3);
        x.way(0, 3, 0, 7, 2);
        return x;
    }

    private static void two() {
        RoundsPerHour x = eight();
        Check.due("11: above, lowest terms", x.ring(0), 5);
        Check.due("11: below, lowest terms", x.ring(1), 3);
        Check.due("12: its ways", x.ringWays(), 28);
        x.change(3, 5, 1);
        Check.due("11: a shut way is not gone", x.ring(0), 3);
        Check.due("11: below then", x.ring(1), 2);
        Check.due("12: its ways then", x.ringWays(), 3);
        x.change(0, 3, -2);
        Check.due("11: 0 is 0", x.ring(0), 0);
        Check.due("11: by 1", x.ring(1), 1);
        x.change(0, 3, -12);
        Check.due("11: below 0", x.ring(0), -5);
        Check.due("11: below the line above 0", x.ring(1), 2);
    }

    private static void ties() {
        RoundsPerHour x = eight();
        x.change(0, 3, 8);
        // Now both rings bring 10, the first in 4, the second in 6; then the first lasts 6 too.
        Check.due("12: the first", x.ringWays(), 3);
        x.change(0, 4, 5);
        Check.due("12: all ways of both", x.ringWays(), 31);
        x.way(0, 2, 3, 2, 3);
        Check.due("12: a twin's way too", x.ringWays(), 63);
        x.change(3, 3, 1);
        Check.due("12: not one that brings less", x.ringWays(), 55);
    }

    private static void lifts() {
        RoundsPerHour x = eight();
        // a by b is 5 by 3: the ways weigh 3 * 4 - 5 * 3 = -3, 1, -2, -9, 11.
        Check.due("13: stays", x.lift(0, 0), 0);
        Check.due("13: one way", x.lift(0, 1), -3);
        Check.due("13: back", x.lift(1, 0), 1);
        Check.due("13: two ways", x.lift(0, 3), -11);
        Check.due("13: round", x.lift(3, 2), 9);
        Check.due("13: long", x.lift(1, 3), -10);
        Check.due("13: in the best ring", x.lift(2, 2), 0);
        Check.due("13: from -1", x.lift(-1, 0), Check.L_BEYOND);
        Check.due("13: from 4", x.lift(4, 0), Check.L_BEYOND);
        Check.due("13: to -1", x.lift(0, -1), Check.L_BEYOND);
        Check.due("13: to 4", x.lift(0, 4), Check.L_BEYOND);
        x.places(5);
        Check.due("13: nothing leads there", x.lift(0, 4), Check.L_NONE);
        Check.due("13: nothing leads away", x.lift(4, 0), Check.L_NONE);
        Check.due("13: it stays there", x.lift(4, 4), 0);
        x.way(0, 4, 0, -1, 2);
        Check.due("13: away", x.lift(4, 0), -13);
        Check.due("13: not back", x.lift(0, 4), Check.L_NONE);
        x.change(5, 5, 1);
        Check.due("13: a shut way is not gone", x.lift(4, 0), Check.L_NONE);
        // Six places in a row, the last way first.
        RoundsPerHour z = new RoundsPerHour();
        z.places(6);
        for (int p = 4; p >= 0; p--) {
            z.way(0, p, p + 1, 1, 1);
        }
        z.way(0, 1, 0, 1, 1);
        Check.due("13: five ways", z.lift(0, 5), 0);
        z.change(0, 3, 8);
        Check.due("13: five ways, the last brings more", z.lift(0, 5), 7);
        // Longest ways, least gains: the numbers are far, but within.
        RoundsPerHour y = new RoundsPerHour();
        y.places(3);
        y.weather(5);
        y.way(4, 0, 1, -999999999, 999999);
        y.way(4, 1, 0, -999999999, 999998);
        y.way(4, 0, 2, 999999999, 999999);
        Check.due("11: far above", y.ring(0), -2000000070L / 18);
        Check.due("11: far below", y.ring(1), 4000014 / 18);
        Check.due("13: far", y.lift(0, 2), (4000014L * 999999963L + 2000000070L * 2000008L) / 18);
    }

    private static void worths() {
        RoundsPerHour x = eight();
        Check.due("14: cut", x.worth(10), 16);
        Check.due("14: cut towards 0", x.worth(-10), -16);
        Check.due("14: whole", x.worth(-9), -15);
        Check.due("14: none", x.worth(0), 0);
        Check.due("14: most", x.worth(1844674407370955161L), 3074457345618258601L);
        Check.due("14: over", x.worth(1844674407370955162L), Check.L_OVER);
        Check.due("14: least", x.worth(-1844674407370955161L), -3074457345618258601L);
        Check.due("14: over below", x.worth(-1844674407370955162L), Check.L_OVER);
        Check.due("14: lowest", x.worth(Long.MIN_VALUE), Check.L_OVER);
        RoundsPerHour y = new RoundsPerHour();
        y.way(0, 0, 1, 1, 1);
        y.way(0, 1, 0, 1, 1);
        Check.due("14: as low as can be told", y.worth(-4000000000000000000L), -4000000000000000000L);
        Check.due("14: lower", y.worth(-4000000000000000001L), Check.L_OVER);
        Check.due("14: lowest of all", y.worth(Long.MIN_VALUE), Check.L_OVER);
        Check.due("14: highest", y.worth(Long.MAX_VALUE), Long.MAX_VALUE);
        y.change(0, 3, -3);
        Check.due("14: above is -1", y.worth(Long.MIN_VALUE), Check.L_OVER);
        Check.due("14: turned", y.worth(Long.MIN_VALUE + 1), Long.MAX_VALUE);
        Check.due("14: turned too low", y.worth(Long.MAX_VALUE), Check.L_OVER);
        y.change(0, 3, -1);
        Check.due("14: above is 0", y.worth(Long.MIN_VALUE), 0);
        Check.due("14: findings", y.status(8), 4);
    }

    private static void raises() {
        RoundsPerHour x = eight();
        // Without way 0: 10 in 6. Ways 0, 1 last 4: they must bring 20/3, of which 2 come from way 1.
        Check.due("15: up", x.raise(0), 5);
        Check.due("15: its fellow", x.raise(1), 3);
        // Without way 3: 6 in 4. Its ring lasts 6: 9, of which 8 come from others.
        Check.due("15: could be less", x.raise(3), 1);
        x.change(0, 3, 5);
        Check.due("15: all but one", x.ringWays(), 3);
        x.change(0, 3, 4);
        Check.due("15: not yet", x.ringWays(), 28);
        x.change(1, 5, 1);
        Check.due("15: no ring with it", x.raise(0), Check.NONE);
        Check.due("15: shut itself", x.raise(1), 3);
        Check.due("15: it stays shut", x.of(1, 5), 1);
        x.change(0, 5, 1);
        Check.due("15: nothing else then", x.raise(4), -999999999);
        x.change(0, 5, 0);
        x.change(1, 5, 0);
        x.change(1, 0, 1);
        // A TOLL brings 7 less and lasts 1 longer: 5 * 10 / 6 - 4 + 7.
        Check.due("15: by its kind", x.raise(1), 12);
        x.change(1, 0, 0);
        x.change(0, 3, -999999999);
        x.change(4, 3, 999999999);
        Check.due("15: too much", x.raise(1), Check.NONE);
        x.change(0, 3, 999999999);
        x.change(4, 3, 7);
        // 4 * 10 / 6 are 6 2/3, and way 0 brings 999999999 of them.
        Check.due("15: far below", x.raise(1), -999999992);
        x.change(4, 3, -999999999);
        Check.due("15: no less than that", x.raise(1), -999999999);
        RoundsPerHour y = new RoundsPerHour();
        y.way(0, 0, 1, 0, 1);
        y.way(0, 1, 0, 999999999, 1);
        y.way(0, 1, 0, 5, 1);
        Check.due("15: as much as can be", y.raise(2), 999999999);
        y.change(1, 0, 5);
        Check.due("15: more than can be", y.raise(2), Check.NONE);
    }

    private static void loses() {
        RoundsPerHour x = eight();
        // Any of ways 2, 3, 4: 6 in 4 are left.
        Check.due("16: first of the best", x.lose(), 2);
        x.change(2, 5, 1);
        Check.due("16: none is left", x.lose(), 0);
        x.change(0, 5, 1);
        Check.due("16: no ring", x.lose(), Check.NONE);
        RoundsPerHour y = new RoundsPerHour();
        y.way(0, 0, 1, 5, 1);
        y.way(0, 0, 1, 9, 2);
        y.way(0, 1, 0, 3, 1);
        Check.due("16: the one of all rings", y.lose(), 2);
        y.way(0, 1, 0, 3, 1);
        // Without way 0 12 in 3, else 8 in 2: they are alike, so that the first way counts.
        Check.due("16: all alike", y.lose(), 0);
        y.change(0, 3, 6);
        Check.due("16: the dearest", y.lose(), 0);
        y.change(0, 5, 1);
        Check.due("16: a shut way is none", y.lose(), 1);
        RoundsPerHour z = new RoundsPerHour();
        z.way(0, 0, 1, 1, 1);
        z.way(0, 0, 1, 9, 1);
        z.way(0, 1, 0, 1, 1);
        z.way(0, 1, 0, 2, 1);
        // Without way 1 3 in 2, without way 3 10 in 2.
        Check.due("16: least left", z.lose(), 1);
    }

    private static void kinds() {
        RoundsPerHour x = eight();
        // A STAIR brings 9 more in even weather.
        Check.due("17: STAIR", x.kind(0), 5);
        Check.due("17: kind stays", x.of(0, 0), 0);
        x.weather(5);
        // BRIDGE: 8 more, 1 longer: 18 in 7 or 14 in 5.
        Check.due("17: BRIDGE", x.kind(0), 3);
        x.weather(1);
        Check.due("17: the first of several", x.kind(2), 0);
        x.change(2, 0, 4);
        Check.due("17: whatever it is now", x.kind(2), 0);
        Check.due("17: a MIRE stays one", x.of(2, 0), 4);
        x.change(0, 5, 1);
        Check.due("17: shut", x.kind(0), 0);
        // What is lost by the hour is less in a longer time.
        RoundsPerHour y = new RoundsPerHour();
        y.weather(1);
        y.way(0, 0, 1, -1000, 10);
        y.way(0, 1, 0, -1000, 1);
        Check.due("17: MIRE", y.kind(0), 4);
        Check.due("17: FORD or TOLL", y.kind(1), 4);
    }

    private static void seasons() {
        RoundsPerHour x = eight();
        Check.due("18: all alike", x.season(), 0);
        x.change(2, 0, 3);
        Check.due("18: BRIDGE", x.season(), 5);
        Check.due("18: weather stays", x.count(4), 0);
        x.change(2, 0, 5);
        x.weather(3);
        Check.due("18: STAIR, first", x.season(), 0);
        Check.due("18: weather stays 3", x.count(4), 3);
        x.change(3, 0, 3);
        // STAIR and BRIDGE: 10 - 7 + 3 * 4 + 9 in 6 + 2 + 1 against 10 - 7 + 9 + 3 * 2 in 7, or 10 - 7 + 15 in 9.
        Check.due("18: both", x.season(), 4);
        x.change(2, 5, 1);
        Check.due("18: the other ring", x.season(), 0);
        RoundsPerHour y = new RoundsPerHour();
        y.way(0, 0, 1, -90, 1);
        y.way(2, 1, 0, 0, 1);
        // -90 - 5 v in 2 + v.
        Check.due("18: longer is better", y.season(), 5);
    }

    // Fourteen ways round six places: 144 rings; and all ways of four places, there and back.
    private static void dense() {
        RoundsPerHour x = new RoundsPerHour();
        x.places(6);
        for (int w = 0; w < 14; w++) {
            x.way(0, w % 6, (w + 1) % 6, w == 13 ? 100 : 1, 1);
        }
        Check.due("11: of many", x.ring(0), 35);
        Check.due("11: of many, below", x.ring(1), 2);
        Check.due("12: of many", x.ringWays(), (1 << 14) - 1 - (1 << 1) - (1 << 7));
        Check.due("16: of many", x.lose(), 13);
        Check.due("15: of many", x.raise(7), 100);
        Check.due("15: of many, any", x.raise(6), 1);
        Check.due("13: of many", x.lift(0, 5), 5 * (2 - 35) + 198);
        RoundsPerHour y = new RoundsPerHour();
        y.places(4);
        for (int w = 0; w < 12; w++) {
            y.way(0, w / 3, (w / 3 + 1 + w % 3) % 4, 10 + w, 1 + w % 2);
        }
        // Ways 4 and 10, from 1 to 3 and back, bring 34 in 2.
        Check.due("11: all of four", y.ring(0), 17);
        Check.due("11: all of four, below", y.ring(1), 1);
        Check.due("12: all of four", y.ringWays(), (1 << 4) + (1 << 10));
    }
}
