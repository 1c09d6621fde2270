/** Promises 26 to 28 at their edges, and what the terms say of THE TAPE and of TEXTS. */
final class TextEdges extends Edge {
    private TextEdges() { }

    static void all() {
        feedGets();
        feedBeyond();
        feedFull();
        wipeEmpty();
        textTold();
        textFault();
        tape();
        tokens();
        items();
        itemRules();
        faults();
    }

    private static void blanks(RoundsPerHour x, int n) {
        for (int i = 0; i < n; i++) {
            x.feed(' ', 1);
        }
    }

    // The rich one, with this on its tape.
    private static Make with(String text) {
        return x -> {
            rich(x);
            x.wipe();
            Check.feed(x, text);
        };
    }

    private static RoundsPerHour told(String text, int items) {
        RoundsPerHour x = made(with(text));
        due("'" + text + "'", x.text(), items);
        due("'" + text + "', the tape then", x.count(5), 0);
        due("'" + text + "', no finding", x.status(-1), 0);
        return x;
    }

    // -1 less the fault is told, and nothing changes but that the tape is empty.
    private static void fault(String text, int place) {
        fault(text, place, Edge::rich);
    }

    private static void fault(String text, int place, Make ready) {
        Make fed = x -> {
            ready.on(x);
            x.wipe();
            Check.feed(x, text);
        };
        answers("'" + text + "'", -1 - place, fed, x -> x.text());
        alike("'" + text + "'", x -> {
            fed.on(x);
            x.text();
        }, x -> {
            ready.on(x);
            x.wipe();
        });
    }

    private static void isWay(String what, RoundsPerHour x, int w, int... told) {
        for (int i = 0; i < told.length; i++) {
            due(what + ", of(" + w + ", " + i + ")", x.of(w, i), told[i]);
        }
    }

    private static void feedGets() {
        sentence(26, "THE TAPE gets the n lowest bytes of a number behind it, the highest of these first (n 1 to 4): how many it has");
        RoundsPerHour x = new RoundsPerHour();
        due("four", x.feed(0x74686967, 4), 4);
        x.wipe();
        due("one", x.feed(0x7f7f7f00 + 't', 1), 1);
        due("two", x.feed(0x7f7f0000 + ('h' << 8) + 'i', 2), 3);
        due("three", x.feed(0x80000000 + ('n' << 16) + ('g' << 8) + ' ', 3), 6);
        due("four", x.feed(('g' << 24) + ('a' << 16) + ('i' << 8) + 'n', 4), 10);
        due("a digit", x.feed(-256 + '7', 1), 11);
        due("count", x.count(5), 11);
        due("thing gain7", x.text(), 1);
        due("its gain", x.its(0, 0), 7);
        // A byte above 127 is one byte, and no letter.
        due("ab", x.feed(('a' << 8) + 'b', 2), 2);
        due("255", x.feed(-1, 1), 3);
        due("two of 255", x.feed(-1, 2), 5);
        due("four of 255", x.feed(-1, 4), 9);
        due("a WORD that is none", x.text(), -1);
        x.feed(0x746869, 3);
        x.feed(0x6e67f3, 3);
        due("243 behind a THING", x.text(), -1 - 5);
        x.feed(0x746869, 3);
        x.feed(0x6e6700, 3);
        due("0 behind a THING", x.text(), -1 - 5);
        RoundsPerHour y = new RoundsPerHour();
        for (int i = 1; i <= 30; i++) {
            due("four by four", y.feed(0x20202020, 4), 4 * i);
        }
        due("no finding", y.status(-1), 0);
    }

    private static void feedBeyond() {
        sentence(26, "BEYOND: n");
        for (int n : new int[] {0, 5, -1, LEAST, MOST}) {
            refused("feed(32, " + n + ")", BEYOND, x -> x.feed(32, n));
            refused("ahead of FULL, feed(32, " + n + ")", BEYOND, Edge::full, x -> x.feed(32, n));
        }
        for (int n = 1; n < 5; n++) {
            int fed = n;
            answers("feed(32, " + n + ")", n, Edge::bare, x -> x.feed(32, fed));
        }
    }

    private static void feedFull() {
        sentence(26, "FULL");
        for (int n = 1; n < 5; n++) {
            int fed = n;
            refused("full, " + n + " more", FULL, Edge::full, x -> x.feed(0x20202020, fed));
            for (int room = 0; room <= 4; room++) {
                int left = room;
                Make ready = x -> blanks(x, 120 - left);
                if (n <= room) {
                    answers(n + " in room for " + room, 120 - room + n, ready, x -> x.feed(0x20202020, fed));
                } else {
                    refused(n + " in room for " + room, FULL, ready, x -> x.feed(0x20202020, fed));
                }
            }
        }
    }

    private static void wipeEmpty() {
        sentence(27, "THE TAPE is empty: how many it had");
        RoundsPerHour x = new RoundsPerHour();
        due("it had none", x.wipe(), 0);
        x.feed(1, 1);
        due("it had one", x.wipe(), 1);
        due("it has none", x.count(5), 0);
        due("again", x.wipe(), 0);
        RoundsPerHour y = made(Edge::full);
        due("it had all", y.wipe(), 120);
        due("there is room again", y.feed(32, 4), 4);
        alike("what else there is", z -> {
            rich(z);
            z.wipe();
            Check.feed(z, RICH_TAPE);
        }, Edge::rich);
    }

    private static void textTold() {
        sentence(28, "THE TAPE is a TEXT, and empty then; all that it tells is so, item by item: how many ITEMS");
        told("thing", 1);
        RoundsPerHour x = told("weather 5;weather 0;weather 2;places 6;way 5 4 gain 3 time 2 shut;thing loss 4", 6);
        due("the last WEATHER", x.count(4), 2);
        due("PLACES", x.count(0), 6);
        isWay("the new WAY", x, 5, 0, 5, 4, 3, 2, 1);
        due("the new THING", x.its(3, 0), -4);
        due("WAYS", x.count(1), 6);
        due("THINGS", x.count(2), 4);
        // As many ITEMS as 120 bytes can hold.
        StringBuilder most = new StringBuilder();
        for (int t = 0; t < 12; t++) {
            most.append("thing;");
        }
        for (int p = 0; p < 6; p++) {
            most.append(p == 0 ? "places2" : ";places2");
        }
        RoundsPerHour y = new RoundsPerHour();
        Check.feed(y, most + " ");
        due("all of the tape", y.count(5), 120);
        due("most ITEMS", y.text(), 18);
        due("all THINGS", y.count(2), 12);
        alike("as the calls would have it", z -> {
            with("places 6;weather 4;mire 5 0 loss 8 time 3 shut;thing gain 2 time 9").on(z);
            z.text();
        }, z -> {
            rich(z);
            z.wipe();
            z.places(6);
            z.weather(4);
            z.way(4, 5, 0, -8, 3);
            z.change(5, 5, 1);
            z.thing(2, 9);
        });
    }

    private static void textFault() {
        sentence(28, "With a FAULT: -1 less the FAULT (nothing changes but that THE TAPE is empty; no finding)");
        fault("", 0);
        fault("x", 0);
        fault("places 6;weather 0;way 4 3 gain 3;thing;way 0 1 shut;", 53);
        fault("places 6;weather 0;way 4 3 gain 3;thing;way 0 1 shut x", 53);
        answers("the tape is empty", 0, with("way 0 0"), x -> {
            x.text();
            return x.wipe();
        });
        answers("no finding", 0, with("way 0 0"), x -> {
            x.text();
            return x.status(-1);
        });
        StringBuilder long120 = new StringBuilder("thing;");
        while (long120.length() < 120) {
            long120.append(' ');
        }
        fault(long120.toString(), 120);
        fault(long120.substring(0, 119) + "#", 119);
    }

    private static void tape() {
        sentence(0, "A TEXT is read from THE TAPE (bytes, at most 120)");
        StringBuilder text = new StringBuilder("weather 4");
        while (text.length() < 119) {
            text.insert(0, ' ');
        }
        told(text + " ", 1);
        RoundsPerHour x = told(" " + text, 1);
        due("the last byte counts", x.count(4), 4);
        answers("a 121st", FULL, with(" " + text), y -> y.feed(32, 1));
        answers("an empty one", -1, Edge::bare, y -> y.text());
    }

    private static void tokens() {
        sentence(0, "TOKENS, each as long as can be: WORDS (letters a to z), NUMBERS (digits, 999999 at most), SIGN ; ; blanks may stand between");
        // Each as long as can be.
        fault("placesx 6", 0);
        fault("thinggain 5", 0);
        fault("way 01 gain 5", 7);
        fault("weather 55", 8);
        fault("weather 50", 8);
        isWay("'01' is 1", told("way 01 00", 1), 5, 0, 1, 0, 0, 1, 0);
        isWay("no blanks", told("way0 1gain5time3shut;thing", 2), 5, 0, 0, 1, 5, 3, 1);
        isWay("many blanks", told("   way   0   1   gain   5   time   3   shut   ", 1), 5, 0, 0, 1, 5, 3, 1);
        told("weather 1 ; thing", 2);
        told("weather 1; thing", 2);
        told("weather 1 ;thing", 2);
        // Letters: z is one, what stands around a and z is none; nor are A and Z.
        fault("thingz", 0);
        fault("zthing", 0);
        fault("athing", 0);
        for (char c : new char[] {'`', '{', 'A', 'Z', '_', '@', '[', 0xe1, 0xfa}) {
            fault("thing" + c, 5);
            fault(c + "thing", 0);
        }
        // Digits: 0 and 9 are, what stands around them is none.
        due("90909", told("thing gain 90909", 1).its(3, 0), 90909);
        for (char c : new char[] {'/', ':', '-', '+', '.', ',', 0xb2}) {
            fault("thing gain 5" + c, 12);
            fault("thing gain " + c + "5", 11);
        }
        due("most", told("thing gain 999999", 1).its(3, 0), 999999);
        due("most, behind noughts", told("thing gain 0000000000000999999", 1).its(3, 0), 999999);
        fault("thing gain 1000000", 11);
        fault("thing gain 0001000000", 11);
        fault("thing gain 9999999", 11);
        fault("thing gain 4294967296", 11);
        fault("thing gain 18446744073709551617", 11);
        fault("thing time 4294967297", 11);
        fault("weather 4294967297", 8);
        // Blanks: nothing else is one.
        for (char c : new char[] {9, 10, 11, 12, 13, 0, 31, 33, 160, 255}) {
            fault("thing" + c, 5);
            fault("thing" + c + ";thing", 5);
            fault(c + "thing", 0);
        }
        fault("thing,thing", 5);
        fault("thing:thing", 5);
    }

    private static void items() {
        sentence(0, "TEXT: ITEM { ; ITEM }");
        told("weather 1", 1);
        told("weather 1;weather 2", 2);
        told("thing;thing;thing", 3);
        fault("", 0);
        fault(" ", 1);
        fault(";", 0);
        fault(" ;", 1);
        fault(";thing", 0);
        fault("thing;", 6);
        fault("thing;  ", 8);
        fault("thing;;thing", 6);
        fault("thing; ;thing", 7);
        fault("thing thing", 6);
        fault("weather 1 weather 2", 10);
    }

    private static void itemRules() {
        sentence(0, "ITEM: places and a NUMBER (2 to 6; not fewer than there are); weather and a NUMBER (0 to 5); "
                + "way, toll, ford, bridge, mire or stair, two NUMBERS (FROM, TO: two PLACES, unlike), "
                + "perhaps gain or loss and a NUMBER (GAIN, or GAIN below 0; 0 without), perhaps time and a NUMBER (TIME, 1 or more; 1 without), perhaps shut: a new WAY; "
                + "thing, perhaps gain or loss and a NUMBER, perhaps time and a NUMBER, likewise: a new THING");
        placesItems();
        weatherItems();
        wayItems();
        wayParts();
        thingItems();
    }

    private static void placesItems() {
        for (int have = 2; have <= 6; have++) {
            int places = have;
            for (int v = 0; v <= 8; v++) {
                Make ready = x -> x.places(places);
                if (v < have || v > 6) {
                    fault("places " + v, 7, ready);
                } else {
                    RoundsPerHour x = made(ready);
                    Check.feed(x, "places " + v);
                    due("places " + v + " of " + have, x.text(), 1);
                    due("PLACES", x.count(0), v);
                }
            }
        }
        fault("places 6;places 5", 16);
        fault("places 5;places 6;places 5", 25);
        told("places 5;places 5;places 6", 3);
        fault("places 100000", 7);
        fault("places six", 7);
    }

    private static void weatherItems() {
        for (int v = 0; v <= 5; v++) {
            due("weather " + v, told("weather " + v, 1).count(4), v);
        }
        for (int v : new int[] {6, 7, 10, 999999}) {
            fault("weather " + v, 8);
        }
        fault("weather -1", 8);
        fault("weather even", 8);
    }

    private static void wayItems() {
        String[] words = {"way", "toll", "ford", "bridge", "mire", "stair"};
        for (int k = 0; k < 6; k++) {
            int end = words[k].length();
            isWay(words[k], told(words[k] + " 4 0", 1), 5, k, 4, 0, 0, 1, 0);
            isWay(words[k], told(words[k] + " 0 4 loss 2 time 3 shut", 1), 5, k, 0, 4, -2, 3, 1);
            fault(words[k], end);
            fault(words[k] + " 0", end + 2);
            fault(words[k] + " 5 0", end + 1);
            fault(words[k] + " 0 5", end + 3);
            fault(words[k] + " 3 3", end + 3);
        }
        fault("way 0 0", 6);
        fault("way 4 4", 6);
        fault("way 2 0", 4, Edge::bare);
        fault("way 0 2", 6, Edge::bare);
        fault("way 0 5;places 6", 6);
        isWay("places told ahead", told("places 6;way 5 0", 2), 5, 0, 5, 0, 0, 1, 0);
        fault("places 6;way 6 0", 13);
        fault("places 6;way 0 6", 15);
        fault("way 0 -1", 6);
        fault("way zero 1", 4);
        fault("way 0 one", 6);
        fault("way 0;1", 5);
        fault("way 0 1 2", 8);
    }

    private static void wayParts() {
        int[][] gains = {{0, 0}, {1, 1}, {999999, 999999}};
        for (int[] g : gains) {
            due("gain " + g[0], told("way 0 1 gain " + g[0], 1).of(5, 3), g[1]);
            due("loss " + g[0], told("way 0 1 loss " + g[0], 1).of(5, 3), -g[1]);
        }
        due("time 1", told("way 0 1 time 1", 1).of(5, 4), 1);
        due("time 999999", told("way 0 1 time 999999", 1).of(5, 4), 999999);
        fault("way 0 1 time 0", 13);
        fault("way 0 1 time 000", 13);
        fault("way 0 1 time 1000000", 13);
        fault("way 0 1 gain 1000000", 13);
        fault("way 0 1 loss 1000000", 13);
        fault("way 0 1 gain -1", 13);
        fault("way 0 1 gain 1 gain 1", 15);
        fault("way 0 1 gain 1 loss 1", 15);
        fault("way 0 1 loss 1 gain 1", 15);
        fault("way 0 1 time 1 gain 1", 15);
        fault("way 0 1 time 1 loss 1", 15);
        fault("way 0 1 time 1 time 1", 15);
        fault("way 0 1 shut gain 1", 13);
        fault("way 0 1 shut time 1", 13);
        fault("way 0 1 shut shut", 13);
        fault("way 0 1 gain shut", 13);
        fault("way 0 1 time shut", 13);
        fault("way shut", 4);
        fault("way 0 shut", 6);
        fault("shut", 0);
        due("shut", told("way 0 1 shut", 1).of(5, 5), 1);
        due("not shut", told("way 0 1", 1).of(5, 5), 0);
        due("shut, gain", told("way 0 1 gain 4 shut", 1).of(5, 5), 1);
        due("shut, time", told("way 0 1 time 4 shut", 1).of(5, 5), 1);
        isWay("the next one has its own", told("way 0 1 gain 4 time 5 shut;way 1 2", 2), 6, 0, 1, 2, 0, 1, 0);
    }

    private static void thingItems() {
        String[] texts = {"thing", "thing gain 0", "thing loss 0", "thing gain 999999", "thing loss 999999", "thing time 1", "thing time 999999",
            "thing gain 7 time 8", "thing loss 7 time 8"};
        int[][] things = {{0, 1}, {0, 1}, {0, 1}, {999999, 1}, {-999999, 1}, {0, 1}, {0, 999999}, {7, 8}, {-7, 8}};
        for (int i = 0; i < texts.length; i++) {
            RoundsPerHour x = told(texts[i], 1);
            due(texts[i] + ": GAIN", x.its(3, 0), things[i][0]);
            due(texts[i] + ": TIME", x.its(3, 1), things[i][1]);
            due(texts[i] + ": BASE's GAIN stays", x.its(-1, 0), 7);
        }
        due("the next one has its own GAIN", told("thing gain 4 time 5;thing", 2).its(4, 0), 0);
        due("the next one has its own TIME", told("thing gain 4 time 5;thing", 2).its(4, 1), 1);
        fault("thing time 0", 11);
        fault("thing time 1000000", 11);
        fault("thing loss 1000000", 11);
        fault("thing shut", 6);
        fault("thing 1", 6);
        fault("thing time 1 gain 1", 13);
        fault("thing gain 1 loss 1", 13);
        fault("thing gain", 10);
        fault("thing time", 10);
    }

    // Each WORD with one letter changed, one left out, one more: another one, wherever it stands.
    private static void otherWords() {
        String[] texts = {"places 6", "weather 1", "way 0 1", "toll 0 1", "ford 0 1", "bridge 0 1", "mire 0 1", "stair 0 1", "thing",
            "way 0 1 gain 1", "way 0 1 loss 1", "way 0 1 time 1", "way 0 1 shut", "thing gain 1", "thing loss 1", "thing time 1"};
        int[] begins = {0, 0, 0, 0, 0, 0, 0, 0, 0, 8, 8, 8, 8, 6, 6, 6};
        for (int t = 0; t < texts.length; t++) {
            told(texts[t], 1);
            int end = begins[t];
            while (end < texts[t].length() && texts[t].charAt(end) >= 'a') {
                end++;
            }
            for (int i = begins[t]; i < end; i++) {
                char c = texts[t].charAt(i);
                fault(texts[t].substring(0, i) + (char) (c + 1) + texts[t].substring(i + 1), begins[t]);
                fault(texts[t].substring(0, i) + (char) (c - 1) + texts[t].substring(i + 1), begins[t]);
                fault(texts[t].substring(0, i) + texts[t].substring(i + 1), begins[t]);
            }
            fault(texts[t].substring(0, end) + "s" + texts[t].substring(end), begins[t]);
            fault(texts[t].substring(0, begins[t]) + "a" + texts[t].substring(begins[t]), begins[t]);
        }
    }

    private static void faults() {
        sentence(0, "FAULT: the place (from 0) of the first byte of the first TOKEN that can't stand there (a NUMBER that isn't as told, another WORD, "
                + "a byte that begins no TOKEN, the WORD of a 15th WAY, of a 13th THING: its own), or how many bytes there are if it ends too early");
        fault("   weather   6", 13);
        fault("weather 1;weather 6;weather 7", 18);
        fault("road 0 1", 0);
        fault("thing; road 0 1", 7);
        otherWords();
        fault("12", 0);
        fault("#", 0);
        fault("thing #", 6);
        fault("way 0 1 gain 5 #", 15);
        fault("way 0 #", 6);
        // Of the first one only: what stands behind it is not looked at.
        fault("weather 6 # road", 8);
        fault("# weather 6", 0);
        String[] early = {"places", "weather", "way", "way 0", "way 0 1 gain", "way 0 1 loss", "way 0 1 time", "thing gain", "thing loss", "thing time", "thing;"};
        for (String text : early) {
            fault(text, text.length());
            fault(text + "   ", text.length() + 3);
        }
        Make thirteen = x -> {
            for (int w = 0; w < 13; w++) {
                x.way(0, 0, 1, 1, 1);
            }
        };
        String[] words = {"way", "toll", "ford", "bridge", "mire", "stair"};
        for (String word : words) {
            fault(word + " 0 1", 0, Edge::full);
            fault(" weather 1; " + word + " 9 9", 12, Edge::full);
            fault(word + " 0 1; " + word + " 0 1", word.length() + 6, thirteen);
            RoundsPerHour x = made(thirteen);
            Check.feed(x, word + " 0 1");
            due("a 14th, " + word, x.text(), 1);
        }
        fault("thing", 0, Edge::full);
        fault("weather 1;thing gain 5", 10, Edge::full);
        Make eleven = x -> {
            for (int t = 0; t < 11; t++) {
                x.thing(1, 1);
            }
        };
        fault("thing;thing", 6, eleven);
        RoundsPerHour y = made(eleven);
        Check.feed(y, "thing");
        due("a 12th", y.text(), 1);
        due("all THINGS", y.count(2), 12);
        RoundsPerHour z = made(Edge::full);
        z.wipe();
        Check.feed(z, "weather 1;places 6");
        due("other ITEMS when all is full", z.text(), 2);
    }
}
