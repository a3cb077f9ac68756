/** Promises 18 to 29: entry, seen, sketch, drop, dropTag, dropAll, tagged, sweep, toGo, would, cold, follows. */
final class EntriesThatStay extends Script {
    private static final int[] NO_TAGS = {Integer.MIN_VALUE, -1, 8, 31, 32, Integer.MAX_VALUE};

    // ---- entry

    @Says("Of the ENTRY of a KEY (no USE): VALUE (what 0), WEIGHT (1), TAGS (2), COUNT (3), LAST (4), CAME (5), SINCE (6),"
            + " STALE (7; 1, 0), DUE (8), DIRTY (9).")
    void p18AllOfAnEntry() {
        x.rule(2, 9);
        x.rule(3, 4);
        x.step(5);
        ask("q");
        bring("abcdef", 12, 20, 255);
        ask("abcdef");
        int[] fresh = {12, 20, 255, 2, 3, 1, 5, 0, 0, 0};
        int[] dueOne = {12, 20, 255, 2, 3, 1, 5, 0, 1, 0};
        int[] staleOne = {77, 20, 255, 2, 3, 1, 9, 1, 0, 1};
        for (int what = 0; what < 10; what++) {
            due(fresh[what], on("abcdef").entry(what));
        }
        x.step(4);
        for (int what = 0; what < 10; what++) {
            due(dueOne[what], on("abcdef").entry(what));
        }
        on("abcdef").write(77);
        x.step(9);
        for (int what = 0; what < 10; what++) {
            due(staleOne[what], on("abcdef").entry(what));
        }
        due(3, x.led(0));
        due(1, x.count(0));
    }

    @Says("BAD; NO_KEY; NOT: there is none.")
    void p18BadThenNoKeyThenNot() {
        bring("abcdef", 0, 20, 255);
        for (int what : new int[] {Integer.MIN_VALUE, -1, 10, Integer.MAX_VALUE}) {
            due(BAD, x.entry(what));
        }
        due(BAD, on("abcdef").entry(10));
        due(6, x.count(4));
        due(0, x.entry(0));
        due(NO_KEY, x.entry(0));
        due(NO_KEY, on("a b").entry(9));
        for (int what = 0; what < 10; what++) {
            due(NOT, on("abcde").entry(what));
        }
        // one that is loaded, or cold, is no entry
        x.rule(6, 2);
        x.rule(0, 19);
        due(NOT, on("abcdef").entry(0));
        ask("a");
        due(NOT, on("a").entry(0));
    }

    // ---- seen, sketch

    @Says("SEEN of a KEY. NO_KEY.")
    void p19SeenOrNoKey() {
        due(NO_KEY, x.seen());
        due(NO_KEY, on("a a").seen());
        due(NO_KEY, on("abcdefg").seen());
        due(0, on("zebra").seen());
        ask("zebra zebra");
        due(2, on("zebra").seen());
        due(2, on("zebra").seen());
        due(0, on("abcdef").seen());
    }

    @Says("A count of THE SKETCH. BAD: no such row, place.")
    void p20CountOrBad() {
        ask("zebra");
        int sum = 0;
        for (int place = 0; place < 64; place++) {
            sum += x.sketch(place / 16, place % 16);
        }
        due(4, sum);
        due(1, x.sketch(0, 11));
        due(1, x.sketch(3, 10));
        for (int row : new int[] {Integer.MIN_VALUE, -1, 4, Integer.MAX_VALUE}) {
            due(BAD, x.sketch(row, 0));
            due(BAD, x.sketch(row, 15));
        }
        for (int place : new int[] {Integer.MIN_VALUE, -1, 16, Integer.MAX_VALUE}) {
            due(BAD, x.sketch(0, place));
            due(BAD, x.sketch(3, place));
        }
        due(0, x.sketch(0, 0));
        due(0, x.sketch(3, 15));
    }

    // ---- drop, dropTag, dropAll

    @Says("The ENTRY of a KEY goes, and its COLD one: how many went.")
    void p21EntryOrColdOneGoes() {
        due(0, on("a").drop());
        x.rule(0, 10);
        x.rule(6, 5);
        bring("a", 1, 5, 0);
        bring("b", 2, 10, 0);
        dueText("a", coldOnes());
        due(0, on("c").drop());
        due(1, on("a").drop());
        due(0, x.count(9));
        due(1, x.count(0));
        due(1, on("b").drop());
        due(0, x.count(0));
        due(0, x.count(9));
        due(0, on("b").drop());
        due(1, x.led(7));
    }

    @Says("NO_KEY.")
    void p21NoKey() {
        bring("a", 1, 5, 0);
        due(NO_KEY, x.drop());
        due(NO_KEY, on("a b").drop());
        due(NO_KEY, on("abcdefg").drop());
        due(1, x.count(0));
    }

    @Says("(LOADS go on.)")
    void p21LoadsGoOn() {
        x.rule(3, 1);
        bring("a", 1, 5, 0);
        ask("c");
        x.step(1);
        ask("a d");
        due(1, on("a").drop());
        due(0, on("c").drop());
        due(0, on("d").drop());
        due(2, on("a").load(0));
        due(2, on("c").load(0));
        due(1, on("d").load(0));
        due(0, on("a").came(9, 1, 0));
        due(9, on("a").entry(0));
    }

    @Says("All ENTRIES that have a TAG (0 .. 7) go, then COLD ones: how many. BAD.")
    void p22TaggedOnesGoOrBad() {
        for (int tag : NO_TAGS) {
            due(BAD, x.dropTag(tag));
        }
        due(0, x.dropTag(0));
        due(0, x.dropTag(7));
        x.rule(6, 5);
        bring("g", 2, 4, 128);
        bring("a", 1, 4, 129);
        bring("o", 3, 4, 1);
        bring("w", 4, 4, 129);
        bring("ab", 5, 4, 0);
        x.rule(0, 16);
        dueText("g", coldOnes());
        for (int tag = 1; tag < 7; tag++) {
            due(0, x.dropTag(tag));
        }
        for (int tag : NO_TAGS) {
            due(BAD, x.dropTag(tag));
        }
        due(3, x.dropTag(7));
        due(0, x.count(9));
        due(2, x.count(0));
        due(0, x.dropTag(7));
        due(1, x.dropTag(0));
        dueText("ab 5 w4 c1", entries());
    }

    @Says("All ENTRIES go whose KEY begins with that on THE TAPE, then COLD ones: how many.")
    void p23ThoseThatBeginSoGo() {
        x.rule(6, 5);
        bring("abc", 2, 4, 0);
        bring("abcdef", 1, 4, 0);
        bring("ab", 3, 4, 0);
        bring("b", 4, 4, 0);
        bring("acb", 5, 4, 0);
        x.rule(0, 16);
        dueText("abc", coldOnes());
        due(0, on("abd").dropAll());
        due(0, on("c").dropAll());
        due(0, on("bb").dropAll());
        due(0, on("abcdeg").dropAll());
        due(2, on("abc").dropAll());
        due(0, x.count(9));
        due(3, x.count(0));
        due(2, on("a").dropAll());
        due(1, on("b").dropAll());
        due(0, on("b").dropAll());
        // as a whole
        bring("abcdef", 1, 4, 0);
        due(1, on("abcdef").dropAll());
    }

    @Says("NO_KEY.")
    void p23NoKey() {
        bring("a", 1, 1, 0);
        due(NO_KEY, x.dropAll());
        due(NO_KEY, on("abcdefg").dropAll());
        due(NO_KEY, on("a ").dropAll());
        due(NO_KEY, on(" ").dropAll());
        due(1, x.count(0));
        due(0, x.count(4));
    }

    // ---- tagged, sweep

    @Says("Of ENTRIES with a TAG: how many (what 0), their WEIGHT (1), COUNTS together (2). BAD.")
    void p24OfTaggedOnesOrBad() {
        x.rule(2, 5);
        x.rule(6, 5);
        bring("z", 9, 6, 129);
        bring("a", 1, 4, 1);
        bring("g", 2, 5, 3);
        bring("o", 3, 6, 128);
        ask("a");
        dueText("z", coldOnes());
        int[][] want = {{2, 9, 3}, {1, 5, 1}, {0, 0, 0}, {1, 6, 1}};
        int[] tags = {0, 1, 2, 7};
        for (int i = 0; i < tags.length; i++) {
            for (int what = 0; what < 3; what++) {
                due(want[i][what], x.tagged(tags[i], what));
            }
        }
        x.step(5);
        due(2, x.tagged(0, 0));
        for (int tag : NO_TAGS) {
            due(BAD, x.tagged(tag, 0));
        }
        for (int what : new int[] {Integer.MIN_VALUE, -1, 3, Integer.MAX_VALUE}) {
            due(BAD, x.tagged(0, what));
        }
    }

    @Says("All STALE ENTRIES go, then COLD ones: how many.")
    void p25StaleOnesGo() {
        due(0, x.sweep());
        x.rule(2, 10);
        x.rule(6, 9);
        bring("g", 2, 4, 0);
        bring("a", 1, 4, 0);
        x.rule(0, 4);
        dueText("g", coldOnes());
        x.rule(0, 20);
        x.step(5);
        bring("w", 4, 4, 0);
        bring("o", 3, 4, 0);
        x.step(4);
        due(0, x.sweep());
        x.step(1);
        // a and the cold g, but not w and o
        due(2, x.sweep());
        due(0, x.count(9));
        due(2, x.count(0));
        due(0, x.sweep());
        x.step(5);
        int from = bookSize();
        due(2, x.sweep());
        // by the order in which they came
        dueText("8 8", bookFrom(from));
        due(336, x.book(from, 2));
        due(328, x.book(from + 1, 2));
        due(0, x.count(0));
    }

    @Says("All STALE ENTRIES go, then COLD ones: how many.")
    void p25NothingIsStaleIfNothingExpires() {
        x.rule(6, 9);
        bring("g", 2, 4, 0);
        bring("a", 1, 4, 0);
        x.rule(0, 4);
        x.step(1000);
        due(0, x.sweep());
        due(1, x.count(0));
        due(1, x.count(9));
    }

    // ---- toGo

    @Says("Byte j of the KEY of THE i-th TO GO (from 0); j -1: how many; j -2: its COUNT.")
    void p26WhoIsToGo() {
        bring("ab", 1, 1, 0);
        bring("abcdef", 1, 1, 0);
        bring("z", 1, 1, 0);
        ask("ab ab abcdef");
        String[] order = {"z", "abcdef", "ab"};
        int[] counts = {1, 2, 3};
        for (int i = 0; i < 3; i++) {
            int n = i;
            dueText(order[i], text(j -> x.toGo(n, j)));
            due(order[i].length(), x.toGo(i, -1));
            due(counts[i], x.toGo(i, -2));
        }
    }

    @Says("BAD; NOT: there are not as many.")
    void p26BadThenNot() {
        due(BAD, x.toGo(-1, 0));
        due(BAD, x.toGo(Integer.MIN_VALUE, 0));
        due(BAD, x.toGo(0, -3));
        due(BAD, x.toGo(0, Integer.MIN_VALUE));
        for (int j : new int[] {-2, -1, 0, Integer.MAX_VALUE}) {
            due(NOT, x.toGo(0, j));
            due(NOT, x.toGo(Integer.MAX_VALUE, j));
        }
        bring("ab", 1, 1, 0);
        due('b', x.toGo(0, 1));
        due(NOT, x.toGo(0, 2));
        due(NOT, x.toGo(0, Integer.MAX_VALUE));
        due(NOT, x.toGo(1, 0));
        due(NOT, x.toGo(1, -1));
        due(NOT, x.toGo(1, -2));
        due(BAD, x.toGo(1, -3));
    }

    // ---- would

    @Says("How many ENTRIES would go, if the LOAD of a KEY came with a WEIGHT;")
    void p27HowManyWouldGo() {
        due(0, on("a").would(20));
        bring("a", 1, 5, 0);
        bring("g", 2, 5, 0);
        bring("o", 3, 10, 0);
        due(1, on("w").would(1));
        due(1, on("w").would(5));
        due(2, on("w").would(6));
        due(2, on("w").would(10));
        due(3, on("w").would(11));
        due(3, on("w").would(20));
        // one that is there is made new, and never goes itself
        due(0, on("a").would(5));
        due(1, on("a").would(6));
        due(1, on("a").would(10));
        due(2, on("a").would(11));
        due(0, on("o").would(1));
        due(2, on("o").would(20));
        due(3, x.count(0));
        due(0, x.led(7));
        due(3, x.led(0));
    }

    @Says("NOT: it would not be LET IN.")
    void p27NotIfAboveRoom() {
        bring("a", 1, 5, 0);
        x.rule(0, 10);
        due(0, on("a").would(10));
        due(NOT, on("a").would(11));
        due(1, on("w").would(10));
        due(NOT, on("w").would(11));
        due(1, x.count(0));
    }

    @Says("NOT: it would not be LET IN.")
    void p27NotIfWaryAndSeenTooLittle() {
        x.rule(2, 10);
        x.rule(5, 1);
        bring("a", 1, 10, 0);
        due(0, on("w").would(10));
        due(NOT, on("w").would(11));
        bring("g", 2, 10, 0);
        ask("o");
        due(NOT, on("o").would(1));
        // one that is there needs not be seen
        due(1, on("a").would(11));
        ask("o");
        due(1, on("o").would(1));
        due(2, on("o").would(11));
        due(NOT, on("w").would(1));
        x.step(10);
        due(1, on("w").would(1));
    }

    @Says("BAD; NO_KEY.")
    void p27BadThenNoKey() {
        for (int weight : new int[] {Integer.MIN_VALUE, -1, 0, 21, Integer.MAX_VALUE}) {
            due(BAD, x.would(weight));
        }
        due(BAD, on("a").would(21));
        due(1, x.count(4));
        due(0, x.would(1));
        due(NO_KEY, x.would(1));
        due(NO_KEY, on("a b").would(20));
        x.rule(0, 1);
        due(NO_KEY, x.would(2));
    }

    // ---- cold

    @Says("Byte j of the KEY of the i-th on THE COLD SHELF (from 0, the first to go first); j -1: how many; j -2: its"
            + " VALUE; j -3: its SINCE.")
    void p28WhoIsCold() {
        x.rule(6, 2);
        x.rule(0, 5);
        x.step(3);
        bring("abcdef", 9, 5, 1);
        x.step(3);
        bring("g", 8, 5, 1);
        bring("o", 7, 5, 1);
        dueText("abcdef", text(j -> x.cold(0, j)));
        int[] want = {3, 9, 6};
        int[] other = {6, 8, 1};
        for (int j = -3; j <= -1; j++) {
            due(want[j + 3], x.cold(0, j));
            due(other[j + 3], x.cold(1, j));
        }
        due('g', x.cold(1, 0));
        // of one more, the one that is told first goes
        bring("w", 6, 5, 1);
        dueText("g o", coldOnes());
    }

    @Says("BAD: i below 0, j below -3; NOT: there are not as many.")
    void p28BadThenNot() {
        due(BAD, x.cold(-1, 0));
        due(BAD, x.cold(Integer.MIN_VALUE, 0));
        due(BAD, x.cold(0, -4));
        due(BAD, x.cold(0, Integer.MIN_VALUE));
        for (int j : new int[] {-3, -2, -1, 0, Integer.MAX_VALUE}) {
            due(NOT, x.cold(0, j));
            due(NOT, x.cold(Integer.MAX_VALUE, j));
        }
        x.rule(6, 2);
        bring("abc", 9, 5, 1);
        x.rule(0, 4);
        due('c', x.cold(0, 2));
        due(NOT, x.cold(0, 3));
        due(NOT, x.cold(0, Integer.MAX_VALUE));
        due(NOT, x.cold(1, 0));
        due(NOT, x.cold(1, -3));
        due(BAD, x.cold(1, -4));
    }

    // ---- follows

    @Says("Of a KEY, by OF LATE: how often another one (or itself) came right behind it, for the one that did so most"
            + " often (of like ones the one that did so first): how often (what -1; 0: none did), how many bytes that KEY"
            + " has (what -2; NOT), byte what of it (NOT: it has fewer, or none did).")
    void p29WhatFollowsMostOften() {
        ask("a bc a d a d a bc bc");
        due(2, on("a").follows(-1));
        due(2, on("a").follows(-2));
        dueText("bc", text(i -> on("a").follows(i)));
        due(1, on("bc").follows(-1));
        due('a', on("bc").follows(0));
        due(2, on("d").follows(-1));
        ask("bc");
        due(2, on("bc").follows(-1));
        dueText("bc", text(i -> on("bc").follows(i)));
        ask("a d");
        due(3, on("a").follows(-1));
        due('d', on("a").follows(0));
        due(NOT, on("a").follows(1));
    }

    @Says("how often (what -1; 0: none did), how many bytes that KEY has (what -2; NOT), byte what of it (NOT: it has fewer,"
            + " or none did).")
    void p29NotIfNoneDidOrFewer() {
        due(0, on("a").follows(-1));
        due(NOT, on("a").follows(-2));
        due(NOT, on("a").follows(0));
        due(NOT, on("a").follows(Integer.MAX_VALUE));
        ask("a");
        due(0, on("a").follows(-1));
        due(NOT, on("a").follows(-2));
        ask("abcdef");
        due(1, on("a").follows(-1));
        due(6, on("a").follows(-2));
        due('f', on("a").follows(5));
        due(NOT, on("a").follows(6));
        due(NOT, on("a").follows(Integer.MAX_VALUE));
        due(0, on("abcdef").follows(-1));
        due(NOT, on("abcdef").follows(0));
    }

    @Says("BAD: what below -2; NO_KEY.")
    void p29BadThenNoKey() {
        due(BAD, on("a").follows(-3));
        due(BAD, x.follows(Integer.MIN_VALUE));
        due(1, x.count(4));
        due(0, x.follows(-1));
        for (int what = -2; what < 2; what++) {
            due(NO_KEY, x.follows(what));
            due(NO_KEY, on("a b").follows(what));
        }
        due(0, x.led(0));
    }
}
