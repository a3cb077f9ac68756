/** Promises 14 to 17: came, failed, told, load. */
final class LoadsThatRun extends Script {
    public static void main(String[] args) {
        new LoadsThatRun().cameAnswers();
        new LoadsThatRun().cameLetIn();
        new LoadsThatRun().cameMadeNew();
        new LoadsThatRun().cameMadeNewAboveRoom();
        new LoadsThatRun().cameMadeNewDirty();
        new LoadsThatRun().cameAboveRoom();
        new LoadsThatRun().wary();
        new LoadsThatRun().cameTakesColdOff();
        new LoadsThatRun().failed();
        new LoadsThatRun().told();
        new LoadsThatRun().load();
        end();
    }

    void cameAnswers() {
        x.rule(4, 1);
        on("a").ask(0);
        on("b").ask(1);
        due(BAD, on("a").came(-1, 1, 0));
        due(BAD, x.came(100000, 1, 0));
        due(BAD, x.came(0, 0, 0));
        due(BAD, x.came(0, 21, 0));
        due(BAD, x.came(0, 1, -1));
        due(BAD, x.came(0, 1, 256));
        due(1, x.count(4));
        due(1, x.came(0, 1, 255));
        due(0, x.count(4));
        due(NO_KEY, x.came(0, 1, 0));
        due(NO_KEY, on("aaaaaaa").came(0, 1, 0));
        due(STATE, on("a").came(0, 1, 0));
        due(0, x.count(4));
        on("c").ask(2);
        due(STATE, on("c").came(0, 1, 0));
        due(STATE, on("zzz").came(0, 1, 0));
        due(1, on("b").came(0, 1, 0));
        due(1, on("c").came(0, 1, 0));
        due(3, x.led(4));
    }

    void cameLetIn() {
        on("a").ask(4);
        on("a").ask(2);
        on("g").ask(2);
        x.step(7);
        int from = bookSize();
        due(2, on("a").came(12, 3, 5));
        dueText("4", bookFrom(from));
        due(7, x.book(from, 1));
        due(314, x.book(from, 2));
        int[] want = {12, 3, 5, 2, 3, 1, 7, 0, 0, 0};
        for (int what = 0; what < 10; what++) {
            due(want[what], on("a").entry(what));
        }
        due(12, x.take(4));
        due(12, x.take(2));
        due(1, on("g").came(13, 17, 0));
        due(2, on("g").entry(5));
        due(20, x.count(1));
        due(0, x.led(7));
        on("o").ask(0);
        from = bookSize();
        due(1, on("o").came(1, 1, 0));
        dueText("7 4", bookFrom(from));
        dueText("o 1 w1 c1; a 12 w3 c2", entries());
    }

    void cameMadeNew() {
        x.rule(3, 1);
        x.rule(6, 9);
        bring("a", 1, 5, 1);
        bring("g", 2, 5, 1);
        bring("o", 3, 5, 1);
        bring("w", 4, 5, 1);
        x.step(2);
        due(1, on("a").ask(0));
        on("g").ask(0);
        on("g").ask(0);
        int count = on("a").entry(3);
        int last = on("a").entry(4);
        int from = bookSize();
        due(0, on("a").came(9, 14, 6));
        dueText("7 7 4", bookFrom(from));
        dueText("o w", coldOnes());
        due(9, on("a").entry(0));
        due(14, on("a").entry(1));
        due(6, on("a").entry(2));
        due(count, on("a").entry(3));
        due(last, on("a").entry(4));
        due(1, on("a").entry(5));
        due(2, on("a").entry(6));
        due(19, x.count(1));
        // as heavy as all the room
        x.step(1);
        due(9, on("a").ask(0));
        due(0, on("a").came(10, 20, 0));
        dueText("a 10 w20 c3", entries());
    }

    void cameMadeNewAboveRoom() {
        x.rule(3, 1);
        x.rule(6, 9);
        bring("a", 1, 5, 1);
        bring("g", 2, 5, 1);
        x.step(1);
        due(1, on("a").ask(0));
        x.rule(0, 10);
        on("a").write(77);
        int from = bookSize();
        due(0, on("a").came(9, 11, 6));
        dueText("11 7 5", bookFrom(from));
        dueText("a77", writtenOnes());
        due(0, x.count(9));
        due(1, x.led(6));
        due(1, x.led(7));
        due(3, x.led(4));
        dueText("g 2 w5 c1", entries());
    }

    void cameMadeNewDirty() {
        x.rule(3, 1);
        bring("a", 1, 5, 1);
        x.step(1);
        on("a").ask(0);
        x.rule(3, 0);
        due(1, on("a").write(50));
        due(0, on("a").came(9, 6, 2));
        due(50, on("a").entry(0));
        due(6, on("a").entry(1));
        due(2, on("a").entry(2));
        due(1, on("a").entry(9));
        due(1, x.flush());
        dueText("a50", writtenOnes());
    }

    void cameAboveRoom() {
        x.rule(0, 5);
        bring("g", 1, 5, 0);
        on("a").ask(0);
        int from = bookSize();
        due(1, on("a").came(8, 6, 0));
        dueText("5", bookFrom(from));
        due(8, x.take(0));
        due(1, x.led(6));
        dueText("g 1 w5 c1", entries());
    }

    void wary() {
        x.rule(5, 1);
        x.rule(2, 10);
        bring("a", 1, 10, 0);
        bring("a", 1, 10, 0);
        bring("g", 2, 10, 0);
        on("g").ask(0);
        dueText("a 1 w10 c2; g 2 w10 c2", entries());
        on("o").ask(0);
        on("o").ask(0);
        due(1, on("o").came(3, 1, 0));
        due(3, x.take(0));
        due(1, x.led(6));
        due(NOT, on("o").entry(0));
        on("o").ask(0);
        due(1, on("o").came(4, 1, 0));
        due(4, on("o").entry(0));
        dueText("g 2 w10 c2; o 4 w1 c3", entries());
        on("w").ask(0);
        due(1, on("w").came(5, 9, 0));
        due(5, on("w").entry(0));
        due(20, x.count(1));
        on("ab").ask(1);
        x.step(10);
        due(1, on("ab").came(6, 20, 0));
        due(6, on("ab").entry(0));
        due(1, x.count(0));
    }

    void cameTakesColdOff() {
        x.rule(0, 10);
        x.rule(6, 2);
        x.rule(3, 1);
        bring("g", 2, 5, 0);
        bring("a", 1, 5, 0);
        on("a").ask(0);
        x.step(1);
        on("a").ask(0);
        due(2, on("a").load(0));
        bring("o", 3, 10, 0);
        dueText("g a", coldOnes());
        due(0, on("a").came(7, 4, 0));
        dueText("g o", coldOnes());
        dueText("a 7 w4 c3", entries());
        // taken off too, if it is not let in
        x.step(1);
        on("a").ask(0);
        x.rule(0, 3);
        dueText("o a", coldOnes());
        due(0, on("a").came(7, 4, 0));
        dueText("o", coldOnes());
        due(0, x.count(0));
    }

    void failed() {
        x.rule(4, 1);
        on("a").ask(0);
        on("a").ask(5);
        on("b").ask(1);
        due(BAD, on("a").failed(0));
        due(BAD, x.failed(100));
        due(BAD, x.failed(-1));
        due(1, x.count(4));
        int from = bookSize();
        due(2, x.failed(99));
        dueText("6 3", bookFrom(from));
        due(NO_KEY, x.failed(1));
        due(NO_KEY, on("b ").failed(1));
        due(STATE, on("a").failed(1));
        due(-99, x.take(0));
        due(-99, x.take(5));
        due(1, on("b").failed(1));
        due(-1, x.take(1));
        due(2, x.led(5));
        due(0, x.count(0));
        x.rule(3, 1);
        bring("a", 1, 1, 0);
        x.step(1);
        due(1, on("a").ask(0));
        due(0, on("a").failed(3));
        due(1, on("a").entry(0));
        due(NOT, x.take(0));
    }

    void told() {
        due(0, x.told(-1, -1));
        due(NOT, x.told(0, 0));
        due(BAD, x.told(-2, 0));
        due(BAD, x.told(0, -2));
        for (int i = 0; i < 62; i++) {
            String key = "t" + (char) ('a' + i / 26) + (char) ('a' + i % 26);
            due(WAITS, on(key).ask(0));
            due(1, on(key).failed(1));
        }
        due(60, x.told(-1, 0));
        dueText("tac", text(j -> x.told(0, j)));
        dueText("tcj", text(j -> x.told(59, j)));
        due(3, x.told(59, -1));
        due(NOT, x.told(59, 3));
        due(NOT, x.told(60, 0));
        due(NOT, x.told(60, -1));
        due(BAD, x.told(60, -2));
        due(62, x.led(2));
    }

    void load() {
        x.rule(4, 1);
        due(0, on("a").load(0));
        due(0, on("a").load(1));
        due(NOT, on("a").load(2));
        for (int asker = 15; asker >= 0; asker--) {
            on("a").ask(asker);
        }
        on("b").ask(3);
        due(BAD, on("a").load(-1));
        due(1, x.count(4));
        due(2, x.load(0));
        due(NO_KEY, x.load(0));
        due(16, on("a").load(1));
        due(15, on("a").load(2));
        due(0, on("a").load(17));
        due(NOT, on("a").load(18));
        due(NOT, on("a").load(Integer.MAX_VALUE));
        due(1, on("b").load(0));
        due(3, on("b").load(2));
        due(NOT, on("b").load(3));
        on("a").giveUp(14);
        due(13, on("a").load(3));
        on("a").ask(14);
        due(14, on("a").load(17));
    }
}
