/** Promises 5 to 13: ask, giveUp, take, first, box, write, flush, writtenOf, of. */
final class Asking extends Script {
    public static void main(String[] args) {
        new Asking().keys();
        new Asking().hitsAndWaits();
        new Asking().stale();
        new Asking().ahead();
        new Asking().warmed();
        new Asking().warmedButNotLetIn();
        new Asking().staleColdOne();
        new Asking().halving();
        new Asking().giveUp();
        new Asking().takeAndFirst();
        new Asking().fullBox();
        new Asking().box();
        new Asking().write();
        new Asking().flush();
        new Asking().dirtyOnesThatGo();
        new Asking().writtenOf();
        new Asking().of();
        end();
    }

    void keys() {
        due(NO_KEY, x.ask(0));
        due(NO_KEY, on("abcdefg").ask(0));
        due(NO_KEY, on("a b").ask(0));
        due(NO_KEY, on(" a").ask(0));
        due(NO_KEY, on("a ").ask(0));
        due(NO_KEY, on(" ").ask(0));
        due(0, x.count(4));
        due(0, x.led(0));
        due(BAD, on("abc").ask(16));
        due(BAD, x.ask(-1));
        due(3, x.count(4));
        due(BAD, on(" ").ask(16));
        due(4, x.count(4));
        due(NO_KEY, x.ask(15));
        due(WAITS, on("abcdef").ask(15));
        due(0, x.count(4));
        due(WAITS, on("z").ask(0));
        dueText("abcdef z", toldOnes());
    }

    void hitsAndWaits() {
        due(WAITS, on("a").ask(3));
        due(WAITS, on("a").ask(3));
        due(WAITS, on("a").ask(1));
        due(WAITS, on("a").ask(2));
        dueText("1 3 2 2", bookFrom(0));
        due(3, on("a").load(1));
        due(3, on("a").came(99999, 20, 255));
        due(99999, on("a").ask(3));
        due(99999, on("a").ask(9));
        dueText("1 3 2 2 4 0 0", bookFrom(0));
        due(6, on("a").entry(3));
        due(6, on("a").entry(4));
        due(2, x.led(1));
        due(0, on("a").load(0));
    }

    void stale() {
        x.rule(2, 10);
        bring("a", 1, 1, 0);
        x.step(9);
        due(1, on("a").ask(0));
        x.step(1);
        due(1, x.count(0));
        int from = bookSize();
        due(WAITS, on("a").ask(0));
        dueText("8 1 3", bookFrom(from));
        due(0, x.count(0));
        due(1, x.led(1));
    }

    void ahead() {
        x.rule(2, 10);
        x.rule(3, 4);
        bring("a", 1, 1, 0);
        x.step(3);
        due(1, on("a").ask(0));
        due(0, on("a").load(0));
        x.step(1);
        int from = bookSize();
        due(1, on("a").ask(0));
        dueText("0 1 3", bookFrom(from));
        due(2, on("a").load(0));
        due(0, on("a").load(1));
        due(1, on("a").ask(0));
        dueText("0 1 3 0", bookFrom(from));
        x.step(6);
        due(WAITS, on("a").ask(0));
        dueText("0 1 3 0 8 2", bookFrom(from));
        due(1, on("a").came(2, 1, 0));
        due(2, on("a").ask(0));
        due(0, on("a").load(0));
    }

    void warmed() {
        x.rule(0, 10);
        x.rule(6, 5);
        bring("a", 1, 10, 7);
        x.step(2);
        bring("g", 2, 6, 0);
        dueText("a", coldOnes());
        due(0, x.cold(0, -3));
        int from = bookSize();
        due(1, on("a").ask(0));
        dueText("12 7 4", bookFrom(from));
        dueText("g", coldOnes());
        dueText("a 1 w10 c2", entries());
        due(7, on("a").entry(2));
        due(3, on("a").entry(4));
        due(3, on("a").entry(5));
        due(0, on("a").entry(6));
        due(0, on("a").load(0));
        due(0, x.led(1));
        due(1, x.led(12));
        due(2, x.led(4));
        due(0, x.of(0, 1));
        due(1, x.of(0, 0));
    }

    void warmedButNotLetIn() {
        x.rule(0, 10);
        x.rule(6, 5);
        bring("a", 1, 2, 0);
        bring("g", 2, 9, 0);
        bring("o", 3, 9, 0);
        dueText("a g", coldOnes());
        on("o").ask(0);
        on("o").ask(0);
        on("o").ask(0);
        x.rule(5, 1);
        int from = bookSize();
        due(1, on("a").ask(4));
        dueText("12 5", bookFrom(from));
        dueText("g a", coldOnes());
        dueText("o 3 w9 c4", entries());
        due(1, x.led(12));
        due(0, x.led(6));
        due(3, x.led(4));
    }

    void staleColdOne() {
        x.rule(0, 10);
        x.rule(6, 5);
        x.rule(2, 10);
        bring("a", 1, 10, 0);
        x.step(5);
        bring("g", 2, 10, 0);
        x.step(5);
        int from = bookSize();
        dueText("a", coldOnes());
        due(WAITS, on("a").ask(0));
        due(0, x.count(9));
        dueText("1 3", bookFrom(from));
    }

    void halving() {
        x.rule(1, 4);
        bring("a", 1, 1, 0);
        on("a").ask(0);
        on("a").ask(0);
        due(3, on("a").entry(3));
        int from = bookSize();
        due(1, on("a").ask(0));
        dueText("0 10", bookFrom(from));
        due(0, x.book(from + 1, 2));
        due(2, on("a").entry(3));
        due(2, on("a").seen());
        on("a").ask(0);
        due(3, on("a").seen());
        on("g").ask(0);
        on("g").ask(0);
        on("g").ask(0);
        due(1, on("a").entry(3));
        due(1, on("a").seen());
        due(1, on("g").seen());
        due(2, x.led(10));
        x.rule(1, 500);
        for (int i = 0; i < 20; i++) {
            on("a").ask(0);
        }
        due(21, on("a").entry(3));
        due(15, on("a").seen());
    }

    void giveUp() {
        x.rule(4, 1);
        on("a").ask(0);
        on("b").ask(0);
        on("b").ask(1);
        due(BAD, on("b").giveUp(16));
        due(BAD, x.giveUp(-1));
        due(0, x.giveUp(2));
        due(0, x.count(4));
        due(NO_KEY, x.giveUp(0));
        due(NO_KEY, on("b c").giveUp(0));
        due(1, on("b").giveUp(0));
        due(0, on("b").giveUp(0));
        due(1, on("b").load(0));
        due(1, on("b").load(2));
        due(1, on("b").giveUp(1));
        due(0, on("b").load(0));
        due(0, x.count(3));
        due(1, on("a").giveUp(0));
        due(2, on("a").load(0));
        due(0, on("a").load(1));
        due(0, on("zz").giveUp(0));
        due(0, on("a").came(4, 1, 0));
        due(0, x.box(0, 0));
        due(4, on("a").ask(0));
        dueText("a", toldOnes());
        // a load that nobody waited for stays in line when one who did not wait gives up
        x.rule(3, 1);
        on("z").ask(0);
        x.step(1);
        due(4, on("a").ask(0));
        due(1, on("a").load(0));
        due(0, on("a").giveUp(0));
        due(1, on("a").load(0));
    }

    void takeAndFirst() {
        due(BAD, x.take(16));
        due(BAD, x.take(-1));
        due(NOT, x.take(0));
        due(STATE, x.first(0, 0));
        due(STATE, x.first(0, -1));
        due(STATE, x.first(0, 9));
        due(BAD, x.first(0, -2));
        due(BAD, x.first(16, 0));
        due(BAD, x.first(-1, 0));
        on("abcdef").ask(0);
        on("x").ask(0);
        on("x").failed(99);
        on("abcdef").came(0, 1, 0);
        due(1, x.first(0, -1));
        due('x', x.first(0, 0));
        due(NOT, x.first(0, 1));
        due(-99, x.take(0));
        due(6, x.first(0, -1));
        dueText("abcdef", text(i -> x.first(0, i)));
        due(NOT, x.first(0, 6));
        due(NOT, x.first(0, Integer.MAX_VALUE));
        due(BAD, x.first(0, Integer.MIN_VALUE));
        due(0, x.take(0));
        due(NOT, x.take(0));
        due(STATE, x.first(0, 0));
    }

    void fullBox() {
        for (int i = 0; i < 14; i++) {
            String key = "k" + (char) ('a' + i);
            on(key).ask(7);
            due(1, on(key).failed(i + 1));
        }
        due(12, x.box(7, 0));
        due(2, x.led(9));
        due(14, x.led(8));
        due(14, x.of(7, 2));
        dueText("kc", text(i -> x.first(7, i)));
        for (int i = 2; i < 14; i++) {
            due(-(i + 1), x.take(7));
        }
        due(NOT, x.take(7));
    }

    void box() {
        due(BAD, x.box(16, 0));
        due(BAD, x.box(-1, 0));
        due(BAD, x.box(0, 2));
        due(BAD, x.box(0, -1));
        on("a").ask(15);
        on("a").ask(15);
        on("b").ask(15);
        on("c").ask(15);
        on("c").ask(14);
        due(3, x.box(15, 1));
        due(1, x.box(14, 1));
        due(0, x.box(15, 0));
        due(2, x.count(7));
        on("a").failed(1);
        due(2, x.box(15, 1));
        due(1, x.box(15, 0));
        on("c").giveUp(14);
        due(0, x.box(14, 1));
        due(1, x.count(7));
        on("c").ask(0);
        due(2, x.count(7));
    }

    void write() {
        x.rule(2, 10);
        bring("a", 1, 1, 0);
        x.step(3);
        due(BAD, on("a").write(-1));
        due(BAD, x.write(100000));
        due(1, x.count(4));
        due(1, x.write(99999));
        due(NO_KEY, x.write(5));
        due(NO_KEY, on("a b").write(5));
        due(99999, on("a").entry(0));
        due(3, on("a").entry(6));
        due(1, on("a").entry(9));
        due(1, on("a").entry(3));
        due(1, on("a").entry(4));
        due(1, x.led(0));
        due(0, x.led(11));
        due(1, x.count(8));
        int from = bookSize();
        due(0, on("b").write(0));
        dueText("11", bookFrom(from));
        dueText("b0", writtenOnes());
        x.step(10);
        due(0, on("a").write(7));
        dueText("b0 a7", writtenOnes());
        due(99999, on("a").entry(0));
        due(2, x.led(11));
        due(WAITS, on("a").ask(0));
        dueText("b0 a7 a99999", writtenOnes());
        dueText("11 11 11 8 1 3", bookFrom(from));
    }

    void flush() {
        due(0, x.flush());
        bring("a", 1, 1, 0);
        bring("b", 2, 1, 0);
        bring("c", 3, 1, 0);
        on("c").write(33);
        on("a").write(11);
        on("b").write(22);
        on("c").write(34);
        dueText("", writtenOnes());
        due(3, x.count(8));
        int from = bookSize();
        due(3, x.flush());
        dueText("11 11 11", bookFrom(from));
        dueText("a11 b22 c34", writtenOnes());
        due(0, x.count(8));
        due(0, on("a").entry(9));
        due(11, on("a").entry(0));
        due(0, x.flush());
        on("b").write(5);
        due(1, x.flush());
        dueText("a11 b22 c34 b5", writtenOnes());
        due(4, x.led(11));
    }

    void dirtyOnesThatGo() {
        x.rule(6, 2);
        bring("a", 1, 10, 0);
        bring("g", 2, 10, 0);
        on("a").write(5);
        on("o").ask(0);
        int from = bookSize();
        on("o").came(3, 20, 0);
        dueText("11 7 7 4", bookFrom(from));
        dueText("a5", writtenOnes());
        dueText("a g", coldOnes());
        due(5, x.cold(0, -2));
        on("o").write(8);
        due(1, on("o").drop());
        dueText("11 7 7 4 11 9", bookFrom(from));
        dueText("a5 o8", writtenOnes());
        due(5, on("a").ask(0));
        due(0, on("a").entry(9));
    }

    void writtenOf() {
        due(NOT, x.writtenOf(0, 0));
        due(BAD, x.writtenOf(-1, 0));
        due(BAD, x.writtenOf(0, -3));
        for (int i = 0; i < 41; i++) {
            due(0, on("k" + (char) ('a' + i / 26) + (char) ('a' + i % 26)).write(i));
        }
        due(1, x.writtenOf(0, -1));
        due(3, x.writtenOf(0, -2));
        due('b', x.writtenOf(0, 2));
        due(NOT, x.writtenOf(0, 3));
        due(NOT, x.writtenOf(0, Integer.MAX_VALUE));
        due(40, x.writtenOf(39, -1));
        due('b', x.writtenOf(39, 1));
        due(NOT, x.writtenOf(40, -1));
        due(BAD, x.writtenOf(40, -3));
        due(41, x.led(11));
    }

    void of() {
        due(BAD, x.of(-1, 0));
        due(BAD, x.of(16, 0));
        due(BAD, x.of(0, -1));
        due(BAD, x.of(0, 4));
        on("a").ask(0);
        on("a").ask(1);
        on("b").ask(0);
        on("a").came(5, 1, 0);
        on("b").failed(2);
        on("a").ask(0);
        x.take(0);
        due(3, x.of(0, 0));
        due(1, x.of(0, 1));
        due(2, x.of(0, 2));
        due(1, x.of(0, 3));
        due(1, x.of(1, 0));
        due(0, x.of(1, 1));
        due(1, x.of(1, 2));
        due(0, x.of(1, 3));
        x.take(1);
        x.take(1);
        due(1, x.of(1, 3));
    }
}
