/** Promises 33 to 37: book, led, image, back, count. */
final class WhatCameToPass extends Script {
    private static final int[] NONE_SUCH = {Integer.MIN_VALUE, -1, 14, 15, Integer.MAX_VALUE};

    // ---- book

    @Says("Of the i-th in THE BOOK (from 0, the oldest first): what came to pass (what 0), TICK (1), h (2).")
    void p33WhatCameToPass() {
        x.step(11);
        ask("zzzzzz");
        x.step(1);
        on("zzzzzz").came(1, 1, 0);
        long[][] want = {{1, 11, 1231772807}, {3, 11, 1231772807}, {4, 12, 1231772807}};
        for (int i = 0; i < want.length; i++) {
            for (int what = 0; what < 3; what++) {
                due(want[i][what], x.book(i, what));
            }
        }
    }

    @Says("BAD: i below 0, what; NOT: there are not as many.")
    void p33BadThenNot() {
        due(BAD, x.book(-1, 0));
        due(BAD, x.book(Integer.MIN_VALUE, 2));
        for (int what : new int[] {Integer.MIN_VALUE, -1, 3, Integer.MAX_VALUE}) {
            due(BAD, x.book(0, what));
            due(BAD, x.book(40, what));
        }
        for (int what = 0; what < 3; what++) {
            due(NOT, x.book(0, what));
            due(NOT, x.book(Integer.MAX_VALUE, what));
        }
        on("a").write(1);
        due(11, x.book(0, 0));
        due(NOT, x.book(1, 0));
        due(BAD, x.book(1, 3));
    }

    /** No key of six letters has a number below 0; the largest there are have ten digits. */
    @Says("(A h can be any int: it is told as a long.)")
    void p33NumbersAreToldWhole() {
        on("zzzzzz").write(1);
        on("aaaaaa").write(1);
        on("zzzzz").write(1);
        due(1231772807L, x.book(0, 2));
        due(492186407L, x.book(1, 2));
        due(316829267L, x.book(2, 2));
    }

    // ---- led

    @Says("So far: USES (what 0), HITS (1), LOADS told (2), joined (3), CAME (4), FAILED (5), not LET IN (6), went for place"
            + " (7), DELIVERIES (8), lost from a full BOX (9), HALVED (10), WRITTEN (11), WARMED (12), LEASES that ran out"
            + " (13);")
    void p34SumsSoFar() {
        x.rule(0, 10);
        x.rule(1, 5);
        x.rule(6, 3);
        bring("a", 1, 10, 0);
        ask("a");
        bring("g", 2, 10, 0);
        on("o").ask(1);
        on("o").ask(2);
        on("o").failed(3);
        ask("a w");
        x.rule(0, 5);
        on("w").came(1, 6, 0);
        on("w").write(4);
        x.rule(7, 1);
        ask("z");
        x.step(1);
        long[] want = {8, 1, 5, 1, 3, 2, 1, 3, 6, 0, 1, 1, 1, 1};
        for (int what = 0; what < want.length; what++) {
            due(want[what], x.led(what));
        }
    }

    @Says("So far: USES (what 0), HITS (1), LOADS told (2), joined (3), CAME (4), FAILED (5), not LET IN (6), went for place"
            + " (7), DELIVERIES (8)")
    void p34WhatGoesOtherwiseIsInNoSum() {
        x.rule(2, 5);
        for (String key : "a g o w".split(" ")) {
            bring(key, 1, 1, key.equals("g") ? 1 : 0);
        }
        long[] want = {4, 0, 4, 0, 4, 0, 0, 0, 4, 0, 0, 0, 0, 0};
        due(1, on("a").drop());
        due(1, x.dropTag(0));
        due(1, on("o").dropAll());
        x.step(5);
        due(1, x.sweep());
        for (int what = 0; what < want.length; what++) {
            due(want[what], x.led(what));
        }
    }

    @Says("lost from a full BOX (9)")
    void p34LostFromAFullBox() {
        for (int i = 1; i <= 15; i++) {
            ask("a");
            on("a").failed(i);
            due(Math.max(0, i - 12), x.led(9));
        }
        due(15, x.led(8));
        due(-4, x.take(0));
        ask("a");
        on("a").failed(16);
        due(3, x.led(9));
    }

    @Says("CAME (4): LET IN or not; WARMED ones count neither in (4) nor in (6).")
    void p34WarmedOnesAreNotCounted() {
        x.rule(0, 5);
        x.rule(6, 3);
        bring("a", 1, 5, 0);
        bring("g", 1, 5, 0);
        bring("o", 1, 6, 0);
        due(3, x.led(4));
        due(1, x.led(6));
        // warmed and let in; warmed and not
        ask("a");
        x.rule(0, 4);
        ask("g");
        due(2, x.led(12));
        due(3, x.led(4));
        due(1, x.led(6));
        due(0, x.led(1));
    }

    @Says("BAD.")
    void p34BadWhat() {
        for (int what : NONE_SUCH) {
            due(BAD, x.led(what));
        }
        due(0, x.led(0));
        due(0, x.led(13));
    }

    // ---- image, back

    @Says("AN IMAGE is kept: ENTRIES.")
    void p35EntriesAtTheImage() {
        due(0, x.image());
        bring("a", 1, 5, 0);
        bring("g", 2, 5, 0);
        due(2, x.image());
        on("a").drop();
        // the later image takes the place of the one ahead of it
        due(1, x.image());
        on("g").drop();
        due(1, x.back());
        dueText("g 2 w5 c1", entries());
    }

    @Says("It is laid back: ENTRIES.")
    void p36LaidBackMoreThanOnce() {
        bring("a", 1, 5, 0);
        bring("g", 2, 5, 0);
        x.image();
        on("a").drop();
        on("ab c");
        x.step(5);
        x.rule(0, 33);
        due(2, x.back());
        due(4, x.count(4));
        due(NO_KEY, x.drop());
        dueText("a 1 w5 c1; g 2 w5 c1", entries());
        due(0, x.count(5));
        due(20, x.rule(0, 9));
        due(1, x.count(0));
        due(2, x.back());
        due(2, x.count(0));
        due(20, x.rule(0, 20));
    }

    @Says("STATE: there is none.")
    void p36StateIfThereIsNone() {
        due(STATE, x.back());
        bring("a", 1, 5, 0);
        due(STATE, x.back());
        due(1, x.count(0));
        due(1, x.image());
        due(1, x.back());
        due(1, x.back());
    }

    /** Laid back behind other calls that change each part, it goes on as one that never made those calls. */
    @Says("It is laid back: ENTRIES.")
    void p36GoesOnAsIfNothingHadBeen() {
        WhatCameToPass plain = new WhatCameToPass();
        plain.change("a", "g", "o", 3);
        change("a", "g", "o", 3);
        x.image();
        change("x", "yy", "abc", 4);
        x.back();
        plain.change("q", "rr", "abd", 5);
        change("q", "rr", "abd", 5);
        dueText(plain.all(), all());
        due(plain.x.flush(), x.flush());
        dueText(plain.writtenOnes(), writtenOnes());
    }

    private void change(String one, String two, String three, int n) {
        x.rule(1, 5);
        x.rule(2, 30 + n);
        x.rule(3, 4);
        x.rule(4, 8);
        x.rule(5, 0);
        x.rule(6, 2 + n);
        x.rule(7, 40 + n);
        bring(one, n, 9, 1);
        bring(two, n + 1, 9, 3);
        x.step(n);
        bring(three, n + 2, 9, 2);
        on(three).write(60 + n);
        on(two).write(50 + n);
        on("k" + two).write(n);
        x.rule(5, n % 2);
        x.rule(4, 1);
        x.step(4);
        on(three).ask(n);
        on("l" + one).ask(n);
        on("l" + two).ask(n + 1);
        on("l" + three).ask(n + 2);
        on("m" + one).ask(n + 2);
        on(three).failed(n);
        on("l" + one).failed(n);
    }

    private String all() {
        StringBuilder all = new StringBuilder(entries());
        for (int i = 0; i < 40; i++) {
            all.append(' ').append(x.book(i, 0)).append(' ').append(i < 20 ? x.told(i, 1) : x.cold(i - 20, 0));
        }
        for (String key : "lg lrr mq".split(" ")) {
            all.append(' ').append(on(key).load(0)).append(' ').append(on(key).follows(-1));
        }
        for (int what = 0; what < 14; what++) {
            all.append(' ').append(x.led(what)).append(' ').append(x.count(what));
        }
        for (int place = 0; place < 64; place++) {
            all.append(' ').append(x.sketch(place / 16, place % 16));
        }
        for (int asker = 3; asker < 8; asker++) {
            all.append(' ').append(x.box(asker, 0)).append(' ').append(x.box(asker, 1)).append(x.first(asker, 1));
        }
        return all.toString();
    }

    // ---- count

    @Says("How many: 0 ENTRIES, 1 their WEIGHT, 2 LOADS that RUN, 3 in line, 4 bytes on THE TAPE, 5 NOW, 6 STALE ENTRIES,"
            + " 7 ASKERS who wait for something, 8 DIRTY ENTRIES, 9 on THE COLD SHELF.")
    void p37HowMany() {
        x.rule(2, 10);
        x.rule(6, 3);
        bring("a", 1, 9, 0);
        bring("g", 2, 9, 0);
        bring("o", 3, 9, 0);
        on("g").write(1);
        x.step(6);
        on("o").write(1);
        x.step(4);
        on("x").ask(3);
        on("y").ask(3);
        on("z").ask(3);
        on("z").ask(4);
        on("a b");
        int[] want = {2, 18, 2, 1, 3, 10, 1, 2, 2, 1};
        for (int what = 0; what < 10; what++) {
            due(want[what], x.count(what));
        }
    }

    @Says("7 ASKERS who wait for something")
    void p37AskersAreCountedOnce() {
        for (int asker = 0; asker < 16; asker++) {
            on("a").ask(asker);
            on("b").ask(asker);
            due(asker + 1, x.count(7));
        }
        on("a").failed(1);
        due(16, x.count(7));
        on("b").giveUp(0);
        on("b").giveUp(15);
        due(14, x.count(7));
        on("b").failed(1);
        due(0, x.count(7));
    }

    @Says("BAD.")
    void p37BadWhat() {
        for (int what : new int[] {Integer.MIN_VALUE, -1, 10, 11, Integer.MAX_VALUE}) {
            due(BAD, x.count(what));
        }
    }
}
