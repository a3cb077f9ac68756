/** "Terms", down to the paragraph of the askers: time, rules, entries, the sketch, uses, who is first to go. */
final class Terms extends Script {
    private static final int ROOM = 0, WINDOW = 1, EXPIRES = 2, AHEAD = 3, LOADERS = 4, WARY = 5, COLD = 6, LEASE = 7;

    private void dueRule(int what, int least, int most, int atFirst) {
        due(BAD, x.rule(what, least - 1));
        due(BAD, x.rule(what, most + 1));
        due(atFirst, x.rule(what, least));
        due(least, x.rule(what, most));
        due(most, x.rule(what, most));
        due(BAD, x.rule(what, Integer.MIN_VALUE));
        due(BAD, x.rule(what, Integer.MAX_VALUE));
        due(most, x.rule(what, atFirst));
    }

    /** Time goes on by so many ticks, however many. */
    private void wait(int ticks) {
        for (int left = ticks; left > 0; left -= 1000) {
            x.step(Math.min(left, 1000));
        }
    }

    @Says("NOW (0 at first; 99999 at most)")
    void termsNowFrom0To99999() {
        due(0, x.count(5));
        wait(99998);
        due(99998, x.count(5));
        due(99999, x.step(1));
        due(FULL, x.step(1));
        due(99999, x.count(5));
    }

    @Says("ROOM (1 .. 200; 20 at first)")
    void termsRoomFrom1To200() {
        dueRule(ROOM, 1, 200, 20);
        bring("a", 1, 20, 0);
        due(1, on("b").would(1));
        x.rule(ROOM, 1);
        due(0, x.count(0));
        bring("b", 1, 1, 0);
        due(1, x.count(0));
        due(NOT, on("c").would(2));
        x.rule(ROOM, 200);
        for (int i = 0; i < 9; i++) {
            bring("k" + (char) ('a' + i), 1, 20, 0);
        }
        bring("c", 1, 19, 0);
        due(200, x.count(1));
        due(1, x.led(7));
    }

    @Says("WINDOW (1 .. 500; 16)")
    void termsWindowFrom1To500() {
        dueRule(WINDOW, 1, 500, 16);
        x.rule(WINDOW, 1);
        ask("a");
        due(1, x.led(10));
        due(0, on("a").seen());
        ask("a");
        due(2, x.led(10));
        x.rule(WINDOW, 500);
        for (int i = 0; i < 200; i++) {
            ask("a");
        }
        due(2, x.led(10));
    }

    @Says("WINDOW (1 .. 500; 16)")
    void termsWindow16AtFirst() {
        for (int i = 0; i < 15; i++) {
            ask("a");
        }
        due(0, x.led(10));
        ask("a");
        due(1, x.led(10));
        for (int i = 0; i < 15; i++) {
            ask("a");
        }
        due(1, x.led(10));
        ask("a");
        due(2, x.led(10));
    }

    @Says("EXPIRES (0 .. 999: never, if 0; 0)")
    void termsExpiresFrom0To999() {
        dueRule(EXPIRES, 0, 999, 0);
        bring("a", 1, 1, 0);
        wait(998);
        x.rule(EXPIRES, 999);
        due(0, on("a").entry(7));
        x.step(1);
        due(1, on("a").entry(7));
        x.rule(EXPIRES, 0);
        wait(98000);
        due(0, on("a").entry(7));
        due(1, on("a").ask(0));
        x.rule(EXPIRES, 1);
        bring("b", 1, 1, 0);
        due(0, on("b").entry(7));
        x.step(1);
        due(1, on("b").entry(7));
    }

    @Says("AHEAD (0 .. 999: never, if 0; 0)")
    void termsAheadFrom0To999() {
        dueRule(AHEAD, 0, 999, 0);
        bring("a", 1, 1, 0);
        wait(998);
        x.rule(AHEAD, 999);
        due(0, on("a").entry(8));
        x.step(1);
        due(1, on("a").entry(8));
        x.rule(AHEAD, 0);
        wait(98000);
        due(0, on("a").entry(8));
        due(1, on("a").ask(0));
        due(0, on("a").load(0));
        x.rule(AHEAD, 1);
        bring("b", 1, 1, 0);
        due(0, on("b").entry(8));
        x.step(1);
        due(1, on("b").entry(8));
    }

    @Says("LOADERS (1 .. 8; 2)")
    void termsLoadersFrom1To8() {
        ask("a b c");
        due(2, x.count(2));
        ask("d e f g h i j");
        dueRule(LOADERS, 1, 8, 2);
        due(8, x.count(2));
        due(2, x.count(3));
    }

    @Says("LOADERS (1 .. 8; 2)")
    void termsOneLoader() {
        x.rule(LOADERS, 1);
        ask("a b");
        due(1, x.count(2));
        due(1, x.count(3));
    }

    @Says("WARY (0, 1; 0)")
    void termsWary0Or1() {
        dueRule(WARY, 0, 1, 0);
        ask("g g");
        on("g").came(1, 20, 0);
        due(1, on("a").would(20));
        x.rule(WARY, 1);
        due(NOT, on("a").would(20));
    }

    @Says("COLD (0 .. 20; 0)")
    void termsColdFrom0To20() {
        dueRule(COLD, 0, 20, 0);
        // halved behind each use, all count 0, and go as they were asked for
        x.rule(WINDOW, 1);
        x.rule(ROOM, 22);
        for (int i = 0; i < 22; i++) {
            bring(String.valueOf((char) ('a' + i)), i, 1, 0);
        }
        due(22, x.count(0));
        due(22, x.rule(ROOM, 21));
        due(0, x.count(9));
        x.rule(COLD, 20);
        x.rule(ROOM, 1);
        due(20, x.count(9));
        due(1, x.cold(0, -2));
        bring("z", 99, 1, 0);
        due(20, x.count(9));
        due(2, x.cold(0, -2));
        due(21, x.cold(19, -2));
    }

    @Says("LEASE (0 .. 999: never, if 0; 0)")
    void termsLeaseFrom0To999() {
        dueRule(LEASE, 0, 999, 0);
        ask("a");
        wait(50000);
        due(1, x.count(2));
        x.rule(LEASE, 999);
        ask("b");
        x.step(1);
        due(0, on("a").load(0));
        wait(997);
        due(2, on("b").load(0));
        x.step(1);
        due(0, on("b").load(0));
        x.rule(LEASE, 1);
        ask("c");
        x.step(1);
        due(0, on("c").load(0));
    }

    @Says("VALUE (0 .. 99999)")
    void termsValueFrom0To99999() {
        ask("a b");
        due(BAD, on("a").came(-1, 1, 0));
        due(BAD, x.came(100000, 1, 0));
        due(1, x.came(0, 1, 0));
        due(1, on("b").came(99999, 1, 0));
        due(0, on("a").entry(0));
        due(99999, on("b").entry(0));
        due(0, x.take(0));
        due(99999, x.take(0));
        due(BAD, on("a").write(-1));
        due(BAD, x.write(100000));
        due(1, x.write(99999));
        due(1, on("b").write(0));
        due(99999, on("a").ask(1));
        due(0, on("b").ask(1));
    }

    @Says("WEIGHT (1 .. 20)")
    void termsWeightFrom1To20() {
        ask("a b");
        due(BAD, on("a").came(1, 0, 0));
        due(BAD, x.came(1, 21, 0));
        due(BAD, x.would(0));
        due(BAD, x.would(21));
        due(0, x.would(20));
        due(1, on("a").came(1, 1, 0));
        due(1, on("a").entry(1));
        due(1, on("b").came(1, 20, 0));
        due(20, on("b").entry(1));
    }

    @Says("TAGS (bits 0 .. 7)")
    void termsTagsAreBits0To7() {
        bring("a", 1, 1, 0);
        bring("b", 1, 1, 1);
        bring("c", 1, 1, 128);
        bring("d", 1, 1, 255);
        for (int tag = 0; tag < 8; tag++) {
            due(tag == 0 || tag == 7 ? 2 : 1, x.tagged(tag, 0));
        }
        due(255, on("d").entry(2));
        due(BAD, x.tagged(8, 0));
        due(BAD, x.tagged(-1, 0));
    }

    @Says("LAST (when it was asked for last: a number that grows by one with each USE, of any KEY)")
    void termsLastGrowsWithEachUse() {
        bring("a", 1, 1, 0);
        due(1, on("a").entry(4));
        ask("b b c");
        due(NO_KEY, x.ask(0));
        due(BAD, x.ask(16));
        due(1, on("a").entry(4));
        ask("a");
        due(5, on("a").entry(4));
    }

    @Says("CAME (a number that grows by one with each ENTRY; 1 the first)")
    void termsCameGrowsWithEachEntry() {
        bring("a", 1, 10, 0);
        due(1, on("a").entry(5));
        ask("b");
        on("b").failed(1);
        x.rule(ROOM, 10);
        bring("c", 1, 11, 0);
        due(NOT, on("c").entry(5));
        bring("d", 1, 5, 0);
        due(2, on("d").entry(5));
        on("d").drop();
        bring("d", 1, 5, 0);
        due(3, on("d").entry(5));
    }

    @Says("SINCE (the TICK at which it came)")
    void termsSinceIsTheTickAtWhichItCame() {
        x.step(3);
        ask("a");
        x.step(4);
        on("a").came(1, 1, 0);
        x.step(1);
        due(7, on("a").entry(6));
    }

    @Says("All WEIGHTS together are ROOM at most.")
    void termsWeightsTogetherAreRoomAtMost() {
        bring("a", 1, 9, 0);
        bring("g", 1, 11, 0);
        due(20, x.count(1));
        due(2, x.count(0));
        bring("o", 1, 1, 0);
        due(12, x.count(1));
        due(2, x.count(0));
        bring("w", 1, 9, 0);
        due(1 + 9, x.count(1));
        bring("ab", 1, 20, 0);
        due(20, x.count(1));
        due(1, x.count(0));
    }

    @Says("It is STALE, if EXPIRES is not 0 and NOW is SINCE and EXPIRES or more")
    void termsStaleAtSinceAndExpires() {
        x.step(5);
        bring("a", 1, 1, 0);
        x.rule(EXPIRES, 4);
        x.step(3);
        due(0, on("a").entry(7));
        x.step(1);
        due(1, on("a").entry(7));
        x.step(1);
        due(1, on("a").entry(7));
        x.rule(EXPIRES, 6);
        due(0, on("a").entry(7));
        x.rule(EXPIRES, 5);
        due(1, on("a").entry(7));
        x.rule(EXPIRES, 0);
        due(0, on("a").entry(7));
    }

    @Says("DUE, if it isn't STALE, AHEAD is not 0, and NOW is SINCE and AHEAD or more.")
    void termsDueAtSinceAndAhead() {
        x.step(5);
        bring("a", 1, 1, 0);
        x.rule(AHEAD, 4);
        x.rule(EXPIRES, 6);
        x.step(3);
        due(0, on("a").entry(8));
        x.step(1);
        due(1, on("a").entry(8));
        x.step(1);
        due(1, on("a").entry(8));
        x.step(1);
        due(0, on("a").entry(8));
        due(1, on("a").entry(7));
        x.rule(EXPIRES, 7);
        due(1, on("a").entry(8));
        x.rule(AHEAD, 0);
        due(0, on("a").entry(8));
        // stale already when it would be due
        x.rule(EXPIRES, 3);
        x.rule(AHEAD, 3);
        due(0, on("a").entry(8));
    }

    @Says("THE SKETCH: 4 rows of 16 counts (0 at first; 15 at most, more stays).")
    void termsSketchCountsFrom0To15() {
        for (int place = 0; place < 64; place++) {
            due(0, x.sketch(place / 16, place % 16));
        }
        due(BAD, x.sketch(4, 0));
        due(BAD, x.sketch(0, 16));
        x.rule(WINDOW, 500);
        for (int uses = 1; uses <= 18; uses++) {
            ask("abcdef");
            due(Math.min(uses, 15), x.sketch(3, 1));
        }
        due(15, on("abcdef").seen());
        x.rule(WINDOW, 1);
        ask("abcdef");
        due(7, on("abcdef").seen());
    }

    @Says("A KEY has a number h: 7 at first; for each letter h = h * 31 + its byte (an int that wraps).")
    void termsNumberOfAKeyWraps() {
        x.rule(LOADERS, 8);
        ask("a z ab zzzzz aaaaaa zzzzzz");
        long[] numbers = {314, 339, 9832, 316829267, 492186407, 1231772807};
        for (int i = 0; i < numbers.length; i++) {
            due(numbers[i], x.book(2 * i, 2));
        }
    }

    /** The places were worked out apart, with numbers that do not wrap, cut to 32 bits. */
    @Says("Its place in row r: ((h * (2 r + 1)) >>> (3 + 5 r)) % 16 (an int that wraps; >>> as of ints).")
    void termsPlacesInTheSketch() {
        duePlaces("a", 7, 3, 0, 0);
        duePlaces("zebra", 11, 6, 5, 10);
        // three times its number is above all ints: shifted as a number below 0, it would have no place
        duePlaces("zzzzzz", 0, 5, 6, 11);
        duePlaces("mmmmmm", 4, 14, 10, 14);
    }

    private void duePlaces(String key, int... places) {
        Terms one = new Terms();
        one.ask(key);
        for (int place = 0; place < 64; place++) {
            due(places[place / 16] == place % 16 ? 1 : 0, one.x.sketch(place / 16, place % 16));
        }
    }

    @Says("SEEN of a KEY: the least of its four counts.")
    void termsSeenIsTheLeastOfFour() {
        // all keys of one letter share three places; a .. f share the fourth, too
        ask("a a a g");
        due(4, x.sketch(1, 3));
        due(3, on("a").seen());
        due(3, on("f").seen());
        due(1, on("g").seen());
        due(0, on("o").seen());
        due(0, on("zebra").seen());
        // az has a place of its own in the first row alone, the first there is
        ask("ab ab az");
        due(1, x.sketch(0, 0));
        due(1, on("az").seen());
        due(2, on("ab").seen());
    }

    @Says("A USE of a KEY (each ask()): its four counts are one more; if there is an ENTRY of it that is not STALE, its"
            + " COUNT is one more (999 at most), LAST is this USE's number.")
    void termsUseCountsOneMore() {
        bring("a", 1, 1, 0);
        due(1, on("a").entry(3));
        due(1, on("a").ask(3));
        due(2, on("a").entry(3));
        due(2, on("a").entry(4));
        due(2, on("a").seen());
        // a write, a look and a giving up are no uses
        on("a").write(5);
        on("a").giveUp(0);
        on("a").load(0);
        due(2, on("a").entry(3));
        due(2, on("a").entry(4));
        due(2, on("a").seen());
        due(2, x.led(0));
    }

    /** 512 calls do not lead so far: of the later ones, whose answers are free, this is asked all the same. */
    @Says("its COUNT is one more (999 at most)")
    void termsCountStaysAt999() {
        bring("a", 1, 1, 0);
        for (int uses = 2; uses <= 1005; uses++) {
            x.rule(WINDOW, 500);
            ask("a");
            if (uses > 996) {
                due(Math.min(uses, 999), on("a").entry(3));
            }
        }
        due(1005, on("a").entry(4));
    }

    @Says("Behind each WINDOW-th USE (when ask() has done all else; counted since WINDOW was told last, or from the"
            + " first on) all COUNTS and all counts of THE SKETCH are halved (cut).")
    void termsHalvedBehindAllElse() {
        x.rule(WINDOW, 2);
        x.rule(ROOM, 5);
        x.rule(COLD, 2);
        bring("a", 1, 5, 0);
        bring("g", 2, 5, 0);
        // let in behind the halving that the use of g brought
        due(0, on("g").entry(3));
        ask("o");
        int from = bookSize();
        // warmed by the 4th use: let in with its count of 1, and halved then
        due(1, on("a").ask(0));
        dueText("12 7 4 10", bookFrom(from));
        due(0, on("a").entry(3));
    }

    @Says("counted since WINDOW was told last, or from the first on")
    void termsWindowCountedSinceItWasTold() {
        x.rule(WINDOW, 3);
        ask("a a");
        x.rule(WINDOW, 3);
        ask("a a");
        due(0, x.led(10));
        due(BAD, x.rule(WINDOW, 0));
        due(BAD, x.rule(WINDOW, 501));
        x.rule(ROOM, 30);
        ask("a");
        due(1, x.led(10));
        ask("a a");
        due(1, x.led(10));
        ask("a");
        due(2, x.led(10));
        ask("a a");
        x.rule(WINDOW, 2);
        ask("a");
        due(2, x.led(10));
        ask("a");
        due(3, x.led(10));
    }

    @Says("all COUNTS and all counts of THE SKETCH are halved (cut).")
    void termsHalvedIsCut() {
        x.rule(WINDOW, 500);
        for (int i = 0; i < 17; i++) {
            ask("abcdef");
        }
        on("abcdef").came(1, 1, 0);
        bring("zebra", 2, 1, 0);
        ask("abcdef abcdef");
        x.rule(WINDOW, 1);
        due(15 + 2, on("abcdef").entry(3));
        ask("zebra");
        due(8, on("abcdef").entry(3));
        due(7, on("abcdef").seen());
        due(1, on("zebra").entry(3));
        due(1, on("zebra").seen());
        ask("q");
        due(4, on("abcdef").entry(3));
        due(3, on("abcdef").seen());
        due(0, on("zebra").entry(3));
        due(0, on("zebra").seen());
        due(0, on("q").seen());
    }

    @Says("all COUNTS and all counts of THE SKETCH are halved (cut).")
    void termsEachCountIsHalved() {
        x.rule(LOADERS, 8);
        // these have the first place of the first row, and the last of the last
        ask("zzzzzz zzzzzz zzzzzz aaaaa aaaaa");
        for (String key : "g o w".split(" ")) {
            bring(key, 1, 1, 0);
            ask(key);
        }
        int[] before = new int[64];
        for (int place = 0; place < 64; place++) {
            before[place] = x.sketch(place / 16, place % 16);
        }
        due(3, before[0]);
        due(2, before[63]);
        x.rule(WINDOW, 1);
        // its places: 13, 3, 6, 0
        ask("ab");
        before[13]++;
        before[16 + 3]++;
        before[32 + 6]++;
        before[48]++;
        for (int place = 0; place < 64; place++) {
            due(before[place] / 2, x.sketch(place / 16, place % 16));
        }
        dueText("g 1 w1 c1; o 1 w1 c1; w 1 w1 c1", entries());
    }

    @Says("FIRST TO GO: of ENTRIES: STALE ones ahead of others; then the least COUNT; then the least LAST; then the"
            + " least CAME.")
    void termsFirstToGoByStaleCountLastCame() {
        x.rule(EXPIRES, 10);
        x.rule(LOADERS, 8);
        bring("a", 1, 1, 0);
        ask("a a");
        x.step(5);
        // g and o are let in behind one and the same use, w later
        ask("o g");
        on("g").came(2, 1, 0);
        on("o").came(3, 1, 0);
        bring("w", 4, 1, 0);
        dueText("g 2 w1 c1; o 3 w1 c1; w 4 w1 c1; a 1 w1 c3", entries());
        ask("g");
        dueText("o 3 w1 c1; w 4 w1 c1; g 2 w1 c2; a 1 w1 c3", entries());
        ask("w o");
        dueText("g 2 w1 c2; w 4 w1 c2; o 3 w1 c2; a 1 w1 c3", entries());
        x.step(5);
        dueText("a 1 w1 c3 stale; g 2 w1 c2; w 4 w1 c2; o 3 w1 c2", entries());
        x.step(5);
        dueText("g 2 w1 c2 stale; w 4 w1 c2 stale; o 3 w1 c2 stale; a 1 w1 c3 stale", entries());
    }
}
