/** Promises 1 to 4: a new object, rule, step, feed. */
final class RulesAndTime extends Script {
    private static final int[] LEAST = {1, 1, 0, 0, 1, 0, 0, 0};
    private static final int[] MOST = {200, 500, 999, 999, 8, 1, 20, 999};

    @Says("`FrequencyShelf()`: Empty.")
    void p1NewObjectIsEmpty() {
        for (int what = 0; what <= 9; what++) {
            due(0, x.count(what));
        }
        for (int what = 0; what <= 13; what++) {
            due(0, x.led(what));
        }
        for (int asker = 0; asker < 16; asker++) {
            due(NOT, x.take(asker));
            due(0, x.box(asker, 0));
            due(0, x.box(asker, 1));
            due(0, x.of(asker, asker % 4));
        }
        for (int place = 0; place < 64; place++) {
            due(0, x.sketch(place / 16, place % 16));
        }
        due(0, x.told(-1, 0));
        due(0, x.flush());
        due(0, x.sweep());
        due(0, x.replayed(0, 1));
        due(NOT, x.writtenOf(0, -1));
        due(NOT, x.book(0, 0));
        due(NOT, x.toGo(0, 0));
        due(NOT, x.text(0, 0));
        due(NOT, x.cold(0, 0));
        due(STATE, x.back());
    }

    @Says("`FrequencyShelf()`: Empty.")
    void p1ObjectsShareNothing() {
        Twin one = new Twin();
        one.x.image();
        p1NewObjectIsEmpty();
        dueText(new Twin().everything(), one.everything());
    }

    @Says("ROOM (what 0), WINDOW (1), EXPIRES (2), AHEAD (3), LOADERS (4), WARY (5), COLD (6), LEASE (7) becomes v: what it"
            + " was.")
    void p2RuleBecomesVAndTellsWhatItWas() {
        int[] atFirst = {20, 16, 0, 0, 2, 0, 0, 0};
        for (int what = 0; what < 8; what++) {
            due(atFirst[what], x.rule(what, MOST[what]));
        }
        for (int what = 0; what < 8; what++) {
            due(MOST[what], x.rule(what, LEAST[what]));
            due(LEAST[what], x.rule(what, LEAST[what]));
        }
    }

    @Says("BAD.")
    void p2BadWhatOrV() {
        for (int what : new int[] {Integer.MIN_VALUE, -1, 8, Integer.MAX_VALUE}) {
            due(BAD, x.rule(what, 1));
        }
        for (int what = 0; what < 8; what++) {
            x.rule(what, LEAST[what]);
            due(BAD, x.rule(what, LEAST[what] - 1));
            due(BAD, x.rule(what, MOST[what] + 1));
            due(BAD, x.rule(what, Integer.MIN_VALUE));
            due(BAD, x.rule(what, Integer.MAX_VALUE));
            due(LEAST[what], x.rule(what, MOST[what]));
            due(BAD, x.rule(what, MOST[what] + 1));
            due(MOST[what], x.rule(what, MOST[what]));
        }
    }

    @Says("(Less ROOM: ENTRIES go till they find place, the FIRST TO GO first.")
    void p2LessRoom() {
        bring("a", 1, 5, 0);
        bring("g", 2, 5, 0);
        bring("o", 3, 5, 0);
        on("a").ask(0);
        dueText("g 2 w5 c1; o 3 w5 c1; a 1 w5 c2", entries());
        due(20, x.rule(0, 15));
        due(3, x.count(0));
        due(15, x.rule(0, 14));
        dueText("o 3 w5 c1; a 1 w5 c2", entries());
        due(14, x.rule(0, 200));
        due(2, x.count(0));
        due(200, x.rule(0, 9));
        dueText("a 1 w5 c2", entries());
        due(2, x.led(7));
        due(9, x.rule(0, 4));
        due(0, x.count(0));
        due(3, x.led(7));
        due(4, x.rule(0, 1));
    }

    @Says("More LOADERS: LOADS run.)")
    void p2MoreLoaders() {
        for (String key : "a b c d e".split(" ")) {
            on(key).ask(0);
        }
        due(2, x.count(2));
        due(2, x.rule(4, 4));
        due(4, x.count(2));
        due(1, x.count(3));
        dueText("a b c d", toldOnes());
        due(4, x.rule(4, 8));
        due(5, x.count(2));
        due(0, x.count(3));
        due(8, x.rule(4, 1));
        due(5, x.count(2));
    }

    @Says("n TICKS (1 .. 1000): NOW.")
    void p3StepOf1To1000Ticks() {
        due(1, x.step(1));
        due(1001, x.step(1000));
        due(1500, x.step(499));
        due(1500, x.count(5));
    }

    @Says("n TICKS (1 .. 1000): NOW. BAD;")
    void p3BadBelow1AndAbove1000() {
        for (int n : new int[] {0, -1, 1001, Integer.MIN_VALUE, Integer.MAX_VALUE}) {
            due(BAD, x.step(n));
        }
        due(0, x.count(5));
    }

    @Says("FULL: it would be above 99999.")
    void p3FullAbove99999() {
        for (int i = 0; i < 99; i++) {
            due((i + 1) * 1000, x.step(1000));
        }
        due(FULL, x.step(1000));
        due(99000, x.count(5));
        due(BAD, x.step(1001));
        due(99999, x.step(999));
        due(FULL, x.step(1));
        due(FULL, x.step(1000));
        due(BAD, x.step(0));
        due(99999, x.count(5));
    }

    @Says("(STALE ENTRIES stay till they are asked for, or go for place.)")
    void p3StaleEntriesStay() {
        x.rule(2, 5);
        bring("a", 1, 10, 0);
        bring("g", 2, 10, 0);
        int from = bookSize();
        x.step(5);
        x.step(1000);
        due(2, x.count(0));
        due(2, x.count(6));
        due(20, x.count(1));
        dueText("", bookFrom(from));
        due(WAITS, on("a").ask(0));
        due(1, x.count(0));
        due(1, on("a").came(1, 11, 0));
        due(1, x.count(0));
        due(1, x.led(7));
    }

    @Says("A byte (a .. z, a blank) comes to THE TAPE: how many it has. BAD;")
    void p4BadIfNoLetterAndNoBlank() {
        for (int letter : new int[] {'a' - 1, 'z' + 1, 'A', 'Z', '0', 31, 33, 0, -1, 'a' + 256, 32 + 256,
            Integer.MIN_VALUE, Integer.MAX_VALUE}) {
            due(BAD, x.feed(letter));
        }
        due(0, x.count(4));
        due(1, x.feed('a'));
        due(2, x.feed('z'));
        due(3, x.feed(' '));
        due(BAD, x.feed(33));
        due(3, x.count(4));
    }

    @Says("A byte (a .. z, a blank) comes to THE TAPE: how many it has.")
    void p4EachLetterComesAsItself() {
        for (char letter = 'a'; letter <= 'z'; letter++) {
            due(1, x.feed(letter));
            due(0, x.write(1));
            due(letter, x.writtenOf(letter - 'a', 0));
        }
    }

    @Says("FULL: 60.")
    void p4FullAt60() {
        for (int n = 1; n <= 60; n++) {
            due(n, x.feed(n % 7 == 0 ? ' ' : 'm'));
        }
        due(FULL, x.feed('a'));
        due(FULL, x.feed(' '));
        due(BAD, x.feed(33));
        due(60, x.count(4));
        due(NO_KEY, x.ask(0));
        due(0, x.count(4));
        due(1, x.feed('q'));
    }
}
