/** Promises 5 to 13: ask, giveUp, take, first, box, write, flush, writtenOf, of. */
final class Asking extends Script {
    private static final int[] NO_ASKERS = {Integer.MIN_VALUE, -1, 16, Integer.MAX_VALUE};

    // ---- ask

    @Says("An ASKER asks for a KEY: its VALUE; WAITS.")
    void p5ValueOrWaits() {
        due(WAITS, on("a").ask(0));
        due(WAITS, on("a").ask(15));
        due(2, on("a").came(99999, 20, 255));
        due(99999, on("a").ask(15));
        due(99999, on("a").ask(9));
        due(WAITS, on("b").ask(9));
        due(1, on("b").came(0, 20, 0));
        due(0, on("b").ask(9));
        due(WAITS, on("a").ask(9));
    }

    @Says("BAD; NO_KEY.")
    void p5BadAskerThenNoKey() {
        for (int asker : NO_ASKERS) {
            due(BAD, x.ask(asker));
            due(BAD, on("a").ask(asker));
        }
        due(4, x.count(4));
        due(WAITS, x.ask(0));
        due(NO_KEY, x.ask(0));
        due(NO_KEY, on("abcdefg").ask(15));
        due(NO_KEY, on("a b").ask(15));
        due(1, x.led(0));
        due(1, x.of(0, 0));
        dueText("aaaa", toldOnes());
    }

    // ---- giveUp

    @Says("An ASKER gives up a KEY: 1; 0: it did not wait for it.")
    void p6OneOrNoneGivenUp() {
        x.rule(4, 1);
        on("a").ask(0);
        on("b").ask(0);
        on("b").ask(1);
        due(0, on("b").giveUp(2));
        due(0, on("zz").giveUp(0));
        due(1, on("b").giveUp(0));
        due(0, on("b").giveUp(0));
        due(1, on("b").load(0));
        due(1, on("b").giveUp(1));
        due(0, on("b").load(0));
        due(1, on("a").giveUp(0));
        due(0, on("a").giveUp(0));
        // what was delivered is waited for no more
        on("c").ask(15);
        on("a").failed(1);
        due(1, on("c").came(3, 1, 0));
        due(0, on("c").giveUp(15));
        due(1, x.box(15, 0));
    }

    @Says("BAD; NO_KEY.")
    void p6BadAskerThenNoKey() {
        on("a").ask(0);
        for (int asker : NO_ASKERS) {
            due(BAD, x.giveUp(asker));
        }
        due(BAD, on("a").giveUp(16));
        due(1, x.count(4));
        due(1, x.giveUp(0));
        due(NO_KEY, x.giveUp(0));
        due(NO_KEY, on("a ").giveUp(0));
        due(0, x.count(4));
    }

    // ---- take

    @Says("The first DELIVERY of an ASKER is taken out: the VALUE, minus the code; NOT: there is none.")
    void p7FirstTakenOrNot() {
        due(NOT, x.take(0));
        due(NOT, x.take(15));
        on("a").ask(0);
        on("b").ask(0);
        on("b").ask(15);
        due(NOT, x.take(0));
        on("b").failed(99);
        on("a").came(0, 1, 0);
        due(-99, x.take(0));
        due(0, x.take(0));
        due(NOT, x.take(0));
        due(-99, x.take(15));
        due(NOT, x.take(15));
        due(2, x.of(0, 3));
    }

    @Says("BAD.")
    void p7BadAsker() {
        for (int asker : NO_ASKERS) {
            due(BAD, x.take(asker));
        }
    }

    // ---- first

    @Says("Byte i of the KEY of the first DELIVERY of an ASKER (it stays); i -1: how many.")
    void p8BytesOfTheFirst() {
        on("abcdef").ask(0);
        on("x").ask(0);
        on("x").failed(1);
        on("abcdef").failed(2);
        due(1, x.first(0, -1));
        due('x', x.first(0, 0));
        due('x', x.first(0, 0));
        due(-1, x.take(0));
        due(6, x.first(0, -1));
        dueText("abcdef", text(i -> x.first(0, i)));
        due(1, x.box(0, 0));
    }

    @Says("BAD; STATE: there is none; NOT: it has fewer.")
    void p8BadThenStateThenNot() {
        for (int asker : NO_ASKERS) {
            due(BAD, x.first(asker, 0));
        }
        due(BAD, x.first(0, -2));
        due(BAD, x.first(0, Integer.MIN_VALUE));
        for (int i : new int[] {-1, 0, 6, Integer.MAX_VALUE}) {
            due(STATE, x.first(0, i));
        }
        on("abcdef").ask(0);
        on("x").ask(0);
        due(STATE, x.first(0, 0));
        on("abcdef").failed(2);
        on("x").failed(1);
        due('f', x.first(0, 5));
        due(NOT, x.first(0, 6));
        due(NOT, x.first(0, Integer.MAX_VALUE));
        due(BAD, x.first(0, -2));
        x.take(0);
        due('x', x.first(0, 0));
        due(NOT, x.first(0, 1));
        x.take(0);
        due(STATE, x.first(0, 0));
    }

    // ---- box

    @Says("How many DELIVERIES an ASKER has (what 0), for how many KEYS it waits (1).")
    void p9DeliveriesAndWaits() {
        on("a").ask(15);
        on("a").ask(15);
        on("b").ask(15);
        on("c").ask(15);
        on("c").ask(14);
        due(3, x.box(15, 1));
        due(1, x.box(14, 1));
        due(0, x.box(13, 1));
        due(0, x.box(15, 0));
        on("a").failed(1);
        due(2, x.box(15, 1));
        due(1, x.box(15, 0));
        on("c").giveUp(14);
        due(0, x.box(14, 1));
        x.take(15);
        due(0, x.box(15, 0));
    }

    @Says("BAD.")
    void p9BadAskerOrWhat() {
        for (int asker : NO_ASKERS) {
            due(BAD, x.box(asker, 0));
            due(BAD, x.box(asker, 1));
        }
        for (int what : new int[] {Integer.MIN_VALUE, -1, 2, Integer.MAX_VALUE}) {
            due(BAD, x.box(0, what));
        }
        due(0, x.box(0, 0));
        due(0, x.box(15, 1));
    }

    // ---- write

    @Says("A WRITE of a KEY: 1: there is an ENTRY, 0: it is WRITTEN.")
    void p10EntryOrWritten() {
        x.rule(2, 10);
        bring("a", 1, 1, 0);
        due(1, on("a").write(99999));
        due(1, on("a").write(0));
        due(0, x.led(11));
        due(0, on("b").write(0));
        due(1, x.led(11));
        due(1, x.count(0));
        x.step(9);
        due(1, on("a").write(3));
        x.step(10);
        due(0, on("a").write(4));
        dueText("b0 a4", writtenOnes());
    }

    @Says("BAD: VALUE; NO_KEY.")
    void p10BadValueThenNoKey() {
        for (int value : new int[] {Integer.MIN_VALUE, -1, 100000, Integer.MAX_VALUE}) {
            due(BAD, x.write(value));
        }
        due(BAD, on("a").write(100000));
        due(1, x.count(4));
        due(0, x.write(99999));
        due(NO_KEY, x.write(5));
        due(NO_KEY, on("a b").write(5));
        due(0, on("a").write(0));
        dueText("a99999 a0", writtenOnes());
    }

    // ---- flush

    @Says("All DIRTY ENTRIES are FLUSHED: how many.")
    void p11HowManyFlushed() {
        due(0, x.flush());
        bring("a", 1, 1, 0);
        due(0, x.flush());
        bring("b", 2, 1, 0);
        bring("c", 3, 1, 0);
        on("c").write(33);
        due(1, x.flush());
        due(0, x.flush());
        on("c").write(34);
        on("a").write(11);
        on("b").write(22);
        on("c").write(35);
        int from = bookSize();
        due(3, x.flush());
        dueText("11 11 11", bookFrom(from));
        dueText("c33 a11 b22 c35", writtenOnes());
        due(0, x.count(8));
        due(0, on("a").entry(9));
        due(11, on("a").entry(0));
    }

    // ---- writtenOf

    @Says("Of the i-th of WRITTEN that is kept (from 0, the oldest first): its VALUE (what -1), how many bytes its KEY has"
            + " (what -2), byte what of it.")
    void p12ValueLengthAndBytes() {
        on("abcdef").write(5);
        on("z").write(99999);
        due(5, x.writtenOf(0, -1));
        due(6, x.writtenOf(0, -2));
        dueText("abcdef", text(j -> x.writtenOf(0, j)));
        due(99999, x.writtenOf(1, -1));
        due(1, x.writtenOf(1, -2));
        due('z', x.writtenOf(1, 0));
    }

    @Says("BAD; NOT: there are not as many.")
    void p12BadThenNot() {
        due(BAD, x.writtenOf(-1, 0));
        due(BAD, x.writtenOf(Integer.MIN_VALUE, 0));
        due(BAD, x.writtenOf(0, -3));
        due(BAD, x.writtenOf(0, Integer.MIN_VALUE));
        for (int what : new int[] {-2, -1, 0, Integer.MAX_VALUE}) {
            due(NOT, x.writtenOf(0, what));
            due(NOT, x.writtenOf(Integer.MAX_VALUE, what));
        }
        on("abc").write(5);
        due('c', x.writtenOf(0, 2));
        due(NOT, x.writtenOf(0, 3));
        due(NOT, x.writtenOf(0, Integer.MAX_VALUE));
        due(NOT, x.writtenOf(1, -1));
        due(NOT, x.writtenOf(1, 0));
        due(BAD, x.writtenOf(1, -3));
    }

    // ---- of

    @Says("Of an ASKER so far: its USES (what 0), HITS (1), DELIVERIES (2), taken ones (3).")
    void p13SumsOfAnAsker() {
        on("a").ask(0);
        on("a").ask(0);
        on("a").ask(15);
        on("b").ask(0);
        on("a").came(5, 1, 0);
        on("b").failed(2);
        on("a").ask(0);
        x.take(0);
        x.take(15);
        x.take(15);
        int[] ofFirst = {4, 1, 2, 1};
        int[] ofLast = {1, 0, 1, 1};
        for (int what = 0; what < 4; what++) {
            due(ofFirst[what], x.of(0, what));
            due(ofLast[what], x.of(15, what));
            due(0, x.of(7, what));
        }
    }

    @Says("BAD.")
    void p13BadAskerOrWhat() {
        for (int asker : NO_ASKERS) {
            due(BAD, x.of(asker, 0));
            due(BAD, x.of(asker, 3));
        }
        for (int what : new int[] {Integer.MIN_VALUE, -1, 4, Integer.MAX_VALUE}) {
            due(BAD, x.of(0, what));
            due(BAD, x.of(15, what));
        }
    }
}
