/** Promises 30 to 32: replay, replayed, text. */
final class OtherRules extends Script {
    private static final int[] NO_RULES = {Integer.MIN_VALUE, -1, 4, Integer.MAX_VALUE};
    private static final int[] NO_PLACES = {Integer.MIN_VALUE, -1, 0, 13, Integer.MAX_VALUE};

    // ---- replay

    @Says("REPLAY by a rule (0 .. 3) with n places (1 .. 12).")
    void p30RulesFrom0To3AndPlacesFrom1To12() {
        String row = "a b c a d b a a c b";
        for (int rule = 0; rule < 4; rule++) {
            due(1, on(row).replay(rule, 1));
            due(6, on(row).replay(rule, 4));
            due(6, on(row).replay(rule, 12));
        }
        // thirteen keys come round: twelve places are one too few, but not for the twelve latest
        due(0, on("a b c d e f g h i j k l m a").replay(0, 12));
        due(1, on("a b c d e f g h i j k l a").replay(0, 12));
        due(12, on("a b c d e f g h i j k l a b c d e f g h i j k l").replay(0, 12));
        due(0, on("a b c d e f g h i j k l a b c d e f g h i j k l").replay(0, 11));
        due(0, x.led(0));
        due(0, x.count(0));
    }

    @Says("REPLAY by a rule (0 .. 3) with n places (1 .. 12).")
    void p30EachRuleLetsAnotherGo() {
        String row = "a b c a d b";
        due(1, on(row).replay(0, 3));
        due(1, on(row).replay(1, 3));
        due(2, on(row).replay(2, 3));
        due(3, on("a a a b c a").replay(1, 2));
        due(2, on("a a a b c a").replay(0, 2));
        due(3, on("a a a b c a").replay(3, 2));
        x.rule(1, 1);
        due(2, on("a a a b c a").replay(3, 2));
    }

    @Says("BAD (THE TAPE stays);")
    void p30BadAndTheTapeStays() {
        on("a b a");
        for (int rule : NO_RULES) {
            due(BAD, x.replay(rule, 1));
            due(BAD, x.replay(rule, 12));
        }
        for (int n : NO_PLACES) {
            due(BAD, x.replay(0, n));
            due(BAD, x.replay(3, n));
        }
        due(5, x.count(4));
        due(1, x.replay(0, 2));
        due(BAD, x.replay(0, 13));
    }

    @Says("NO_KEY: THE TAPE, which is empty then, is no such row.")
    void p30NoKeyAndTheTapeIsEmpty() {
        due(NO_KEY, x.replay(0, 1));
        for (String tape : new String[] {" ", "  ", " a", "a ", "a  b", "abcdefg", "a abcdefg", "abcdefg a",
            "a b c d e f g h i j k l m n o p q r s t u v w x y z a b c d "}) {
            due(NO_KEY, on(tape).replay(3, 12));
            due(0, x.count(4));
        }
        due(1, on("abcdef a abcdef").replay(2, 12));
        due(0, x.count(4));
        due(0, on("a").replay(0, 1));
    }

    // ---- replayed

    @Says("REPLAYED OF LATE by a rule (0 .. 3) with n places (1 .. 12).")
    void p31ReplayedByEachRule() {
        for (int rule = 0; rule < 4; rule++) {
            due(0, x.replayed(rule, 1));
            due(0, x.replayed(rule, 12));
        }
        for (String key : "a b c a d b".split(" ")) {
            on(key).ask(0);
        }
        on("tape");
        int[] hits = {1, 1, 2, 1};
        for (int rule = 0; rule < 4; rule++) {
            due(0, x.replayed(rule, 1));
            due(hits[rule], x.replayed(rule, 3));
            due(2, x.replayed(rule, 12));
        }
        due(4, x.count(4));
        due(6, x.led(0));
    }

    @Says("REPLAYED OF LATE by a rule (0 .. 3) with n places (1 .. 12).")
    void p31WindowCountsFromTheFirstOfThese() {
        x.rule(1, 4);
        for (String key : "q a a a a b b c a".split(" ")) {
            on(key).ask(0);
        }
        // with q, which is behind its 4th: a counts 1 then, 2 with the 5th; b 2 with the 7th, and later
        due(4, x.replayed(3, 2));
        due(5, x.replayed(1, 2));
        x.rule(1, 500);
        due(5, x.replayed(3, 2));
    }

    @Says("BAD.")
    void p31BadRuleOrPlaces() {
        for (int rule : NO_RULES) {
            due(BAD, x.replayed(rule, 1));
            due(BAD, x.replayed(rule, 12));
        }
        for (int n : NO_PLACES) {
            due(BAD, x.replayed(0, n));
            due(BAD, x.replayed(3, n));
        }
    }

    // ---- text

    @Says("Byte j of a text of THE i-th TO GO (its KEY, blank, VALUE, blank, w and WEIGHT, blank, c and COUNT, and, if so,"
            + " blank, dirty, and blank, stale; NOT: it has fewer); j -1: how many.")
    void p32TextOfOne() {
        x.rule(2, 5);
        bring("abcdef", 99999, 20, 0);
        dueText("abcdef 99999 w20 c1", entries());
        due(19, x.text(0, -1));
        due('1', x.text(0, 18));
        due(NOT, x.text(0, 19));
        due(NOT, x.text(0, Integer.MAX_VALUE));
        on("abcdef").write(0);
        dueText("abcdef 0 w20 c1 dirty", entries());
        due(21, x.text(0, -1));
        due(NOT, x.text(0, 21));
        x.step(5);
        dueText("abcdef 0 w20 c1 dirty stale", entries());
        due(27, x.text(0, -1));
        due(NOT, x.text(0, 27));
        x.flush();
        dueText("abcdef 0 w20 c1 stale", entries());
        x.rule(2, 0);
        for (int i = 0; i < 9; i++) {
            on("abcdef").ask(0);
        }
        dueText("abcdef 0 w20 c10", entries());
        on("z").ask(0);
        on("z").came(7, 1, 0);
        dueText("z 7 w1 c1", entries());
    }

    @Says("BAD; NOT: there are not as many.")
    void p32BadThenNot() {
        due(BAD, x.text(-1, 0));
        due(BAD, x.text(Integer.MIN_VALUE, 0));
        due(BAD, x.text(0, -2));
        due(BAD, x.text(0, Integer.MIN_VALUE));
        for (int j : new int[] {-1, 0, Integer.MAX_VALUE}) {
            due(NOT, x.text(0, j));
            due(NOT, x.text(Integer.MAX_VALUE, j));
        }
        bring("a", 1, 1, 0);
        bring("g", 1, 1, 0);
        due('g', x.text(1, 0));
        due(NOT, x.text(2, 0));
        due(NOT, x.text(2, -1));
        due(BAD, x.text(2, -2));
    }
}
