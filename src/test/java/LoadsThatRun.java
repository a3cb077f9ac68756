/** Promises 14 to 17: came, failed, told, load. */
final class LoadsThatRun extends Script {
    // ---- came

    @Says("The LOAD of a KEY CAME: how many it was DELIVERED to.")
    void p14HowManyItWasDeliveredTo() {
        x.rule(3, 1);
        for (int asker = 0; asker < 16; asker++) {
            on("a").ask(asker);
        }
        on("b").ask(0);
        due(16, on("a").came(5, 1, 0));
        on("b").giveUp(0);
        due(0, on("b").came(6, 1, 0));
        x.step(1);
        on("a").ask(0);
        due(0, on("a").came(7, 1, 0));
        due(3, x.led(4));
        due(16, x.led(8));
        // not let in, it is delivered all the same
        x.rule(0, 1);
        on("c").ask(3);
        due(1, on("c").came(8, 2, 0));
        due(5, x.take(3));
        due(8, x.take(3));
    }

    @Says("BAD: VALUE, WEIGHT, TAGS (0 .. 255); NO_KEY;")
    void p14BadThenNoKey() {
        x.rule(4, 1);
        on("a").ask(0);
        on("a");
        for (int value : new int[] {Integer.MIN_VALUE, -1, 100000, Integer.MAX_VALUE}) {
            due(BAD, x.came(value, 1, 0));
        }
        for (int weight : new int[] {Integer.MIN_VALUE, -1, 0, 21, Integer.MAX_VALUE}) {
            due(BAD, x.came(0, weight, 0));
        }
        for (int tags : new int[] {Integer.MIN_VALUE, -1, 256, Integer.MAX_VALUE}) {
            due(BAD, x.came(0, 1, tags));
        }
        due(1, x.count(4));
        due(1, x.count(2));
        due(1, x.came(99999, 20, 255));
        due(255, on("a").entry(2));
        due(NO_KEY, x.came(0, 1, 0));
        due(NO_KEY, on("aaaaaaa").came(0, 1, 0));
        due(BAD, x.came(-1, 1, 0));
        on("b").ask(0);
        due(1, on("b").came(0, 1, 0));
    }

    @Says("STATE: there is no LOAD of it that RUNS.")
    void p14StateIfNoneRuns() {
        x.rule(4, 1);
        due(STATE, on("zz").came(0, 1, 0));
        due(0, x.count(4));
        on("a").ask(0);
        on("b").ask(1);
        due(STATE, on("b").came(0, 1, 0));
        due(1, on("b").load(0));
        due(1, on("a").came(0, 1, 0));
        due(STATE, on("a").came(0, 1, 0));
        due(1, on("b").came(0, 1, 0));
        due(2, x.led(4));
    }

    // ---- failed

    @Says("The LOAD of a KEY FAILED: how many it was DELIVERED to.")
    void p15HowManyItWasDeliveredTo() {
        on("a").ask(0);
        on("a").ask(15);
        on("b").ask(0);
        on("b").giveUp(0);
        due(2, on("a").failed(1));
        due(0, on("b").failed(1));
        due(-1, x.take(0));
        due(-1, x.take(15));
        due(NOT, x.take(0));
        due(2, x.led(5));
    }

    @Says("BAD; NO_KEY; STATE.")
    void p15BadThenNoKeyThenState() {
        x.rule(4, 1);
        on("a").ask(0);
        on("b").ask(0);
        for (int code : new int[] {Integer.MIN_VALUE, -1, 0, 100, Integer.MAX_VALUE}) {
            due(BAD, x.failed(code));
        }
        due(BAD, on("a").failed(100));
        due(1, x.count(4));
        due(1, x.failed(99));
        due(NO_KEY, x.failed(1));
        due(NO_KEY, on("b ").failed(1));
        due(STATE, on("a").failed(1));
        due(STATE, on("zz").failed(1));
        on("c").ask(0);
        due(STATE, on("c").failed(1));
        due(1, on("b").failed(1));
        due(2, x.led(5));
    }

    // ---- told

    @Says("Byte j of the i-th KEY of TOLD that is kept (from 0, the oldest first); j -1: how many; i -1: how many KEYS are"
            + " kept.")
    void p16BytesOfTold() {
        due(0, x.told(-1, 0));
        due(0, x.told(-1, -1));
        on("abcdef").ask(0);
        on("z").ask(0);
        on("c").ask(0);
        due(2, x.told(-1, 0));
        due(2, x.told(-1, 99));
        dueText("abcdef", text(j -> x.told(0, j)));
        due(6, x.told(0, -1));
        due(1, x.told(1, -1));
        due('z', x.told(1, 0));
    }

    @Says("BAD; NOT: there are not as many.")
    void p16BadThenNot() {
        for (int below : new int[] {-2, Integer.MIN_VALUE}) {
            due(BAD, x.told(below, 0));
            due(BAD, x.told(below, below));
            due(BAD, x.told(0, below));
        }
        for (int j : new int[] {-1, 0, Integer.MAX_VALUE}) {
            due(NOT, x.told(0, j));
            due(NOT, x.told(Integer.MAX_VALUE, j));
        }
        on("abc").ask(0);
        due('c', x.told(0, 2));
        due(NOT, x.told(0, 3));
        due(NOT, x.told(0, Integer.MAX_VALUE));
        due(NOT, x.told(1, 0));
        due(NOT, x.told(1, -1));
        due(BAD, x.told(1, -2));
    }

    // ---- load

    @Says("Of the LOAD of a KEY: 0: there is none; 1 in line; 2 RUNS (what 0); how many wait for it (1; 0: no LOAD);")
    void p17StateOfALoadAndHowManyWait() {
        x.rule(4, 1);
        due(0, on("a").load(0));
        due(0, on("a").load(1));
        for (int asker = 15; asker >= 0; asker--) {
            on("a").ask(asker);
        }
        on("b").ask(3);
        due(2, on("a").load(0));
        due(16, on("a").load(1));
        due(1, on("b").load(0));
        due(1, on("b").load(1));
        on("a").failed(1);
        due(0, on("a").load(0));
        due(0, on("a").load(1));
        due(2, on("b").load(0));
        on("b").giveUp(3);
        due(2, on("b").load(0));
        due(0, on("b").load(1));
    }

    @Says("the i-th who waits (what 2 + i; NOT: there are not as many).")
    void p17WhoWaits() {
        due(NOT, on("a").load(2));
        due(NOT, on("a").load(Integer.MAX_VALUE));
        for (int asker = 15; asker >= 0; asker--) {
            on("a").ask(asker);
        }
        on("b").ask(7);
        for (int i = 0; i < 16; i++) {
            due(15 - i, on("a").load(2 + i));
        }
        due(NOT, on("a").load(18));
        due(NOT, on("a").load(Integer.MAX_VALUE));
        due(7, on("b").load(2));
        due(NOT, on("b").load(3));
        on("a").giveUp(15);
        due(14, on("a").load(2));
        due(NOT, on("a").load(17));
        on("b").giveUp(7);
        due(NOT, on("b").load(2));
    }

    @Says("BAD: what below 0; NO_KEY.")
    void p17BadBelow0ThenNoKey() {
        on("a").ask(0);
        due(BAD, on("a").load(-1));
        due(BAD, x.load(Integer.MIN_VALUE));
        due(1, x.count(4));
        due(2, x.load(0));
        due(NO_KEY, x.load(0));
        due(NO_KEY, x.load(2));
        due(NO_KEY, on("a a").load(1));
        due(BAD, x.load(-1));
    }
}
