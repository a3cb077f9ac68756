/** Promises 1 to 4: a new object, rule, step, feed. */
final class RulesAndTime extends Script {
    public static void main(String[] args) {
        new RulesAndTime().newObject();
        new RulesAndTime().ruleTellsWhatItWas();
        new RulesAndTime().ruleEdges();
        new RulesAndTime().lessRoom();
        new RulesAndTime().windowToldAnew();
        new RulesAndTime().moreLoaders();
        new RulesAndTime().lessCold();
        new RulesAndTime().step();
        new RulesAndTime().leases();
        new RulesAndTime().feed();
        end();
    }

    void newObject() {
        for (int what = 0; what <= 9; what++) {
            due(0, x.count(what));
        }
        for (int what = 0; what <= 13; what++) {
            due(0, x.led(what));
        }
        for (int asker = 0; asker < 16; asker++) {
            due(NOT, x.take(asker));
            due(0, x.box(asker, 0));
            due(0, x.box(asker, 1));
            due(0, x.of(asker, 0));
        }
        for (int place = 0; place < 64; place++) {
            due(0, x.sketch(place / 16, place % 16));
        }
        due(0, x.told(-1, 0));
        due(NOT, x.writtenOf(0, -1));
        due(NOT, x.book(0, 0));
        due(NOT, x.toGo(0, 0));
        due(NOT, x.cold(0, 0));
        due(STATE, x.back());
    }

    void ruleTellsWhatItWas() {
        int[] atFirst = {20, 16, 0, 0, 2, 0, 0, 0};
        int[] most = {200, 500, 999, 999, 8, 1, 20, 999};
        for (int what = 0; what < 8; what++) {
            due(atFirst[what], x.rule(what, most[what]));
            due(most[what], x.rule(what, most[what]));
        }
    }

    void ruleEdges() {
        int[] least = {1, 1, 0, 0, 1, 0, 0, 0};
        int[] most = {200, 500, 999, 999, 8, 1, 20, 999};
        for (int what = 0; what < 8; what++) {
            x.rule(what, least[what]);
            due(BAD, x.rule(what, least[what] - 1));
            due(BAD, x.rule(what, most[what] + 1));
            due(BAD, x.rule(what, Integer.MIN_VALUE));
            due(BAD, x.rule(what, Integer.MAX_VALUE));
            due(least[what], x.rule(what, most[what]));
            due(most[what], x.rule(what, least[what]));
        }
        due(BAD, x.rule(-1, 1));
        due(BAD, x.rule(8, 1));
    }

    void lessRoom() {
        bring("a", 1, 5, 0);
        bring("g", 2, 5, 0);
        bring("o", 3, 5, 0);
        on("a").ask(0);
        dueText("g 2 w5 c1; o 3 w5 c1; a 1 w5 c2", entries());
        due(20, x.rule(0, 15));
        due(3, x.count(0));
        due(15, x.rule(0, 14));
        due(2, x.count(0));
        due(14, x.rule(0, 5));
        dueText("a 1 w5 c2", entries());
        due(2, x.led(7));
        due(5, x.rule(0, 4));
        due(0, x.count(0));
        due(3, x.led(7));
    }

    void windowToldAnew() {
        on("a").ask(0);
        on("a").ask(0);
        due(16, x.rule(1, 3));
        on("a").ask(0);
        on("a").ask(0);
        due(4, on("a").seen());
        due(3, x.rule(1, 3));
        due(BAD, x.rule(1, 501));
        on("a").ask(0);
        on("a").ask(0);
        due(6, on("a").seen());
        due(0, x.led(10));
        on("a").ask(0);
        due(3, on("a").seen());
        due(1, x.led(10));
    }

    void moreLoaders() {
        for (String key : new String[] {"a", "b", "c", "d", "e"}) {
            on(key).ask(0);
        }
        due(2, x.count(2));
        due(2, x.rule(4, 4));
        due(4, x.count(2));
        due(1, x.count(3));
        dueText("a b c d", toldOnes());
        due(4, x.rule(4, 1));
        due(4, x.count(2));
        due(1, on("a").failed(1));
        due(1, on("b").failed(1));
        due(1, on("c").failed(1));
        due(1, x.count(2));
        due(1, x.count(3));
        due(1, on("d").failed(1));
        dueText("a b c d e", toldOnes());
    }

    void lessCold() {
        x.rule(6, 3);
        for (String key : new String[] {"a", "b", "c", "d"}) {
            bring(key, 1, 5, 0);
        }
        x.rule(0, 1);
        dueText("b c d", coldOnes());
        due(3, x.rule(6, 2));
        dueText("c d", coldOnes());
        due(2, x.rule(6, 0));
        due(0, x.count(9));
    }

    void step() {
        due(BAD, x.step(0));
        due(BAD, x.step(-1));
        due(BAD, x.step(1001));
        due(BAD, x.step(Integer.MAX_VALUE));
        due(0, x.count(5));
        due(1, x.step(1));
        due(1001, x.step(1000));
        for (int i = 2; i < 99; i++) {
            due(i * 1000 + 1, x.step(1000));
        }
        due(99001, x.step(1000));
        due(FULL, x.step(999));
        due(FULL, x.step(1000));
        due(BAD, x.step(1001));
        due(99001, x.count(5));
        due(99999, x.step(998));
        due(FULL, x.step(1));
        due(BAD, x.step(0));
        due(99999, x.count(5));
    }

    void leases() {
        x.rule(7, 3);
        x.rule(4, 2);
        on("a").ask(0);
        x.step(1);
        on("b").ask(0);
        on("b").ask(1);
        on("c").ask(2);
        on("d").ask(2);
        due(2, x.step(1));
        due(2, x.count(2));
        int from = bookSize();
        due(5, x.step(3));
        dueText("13 6 3 13 6 3", bookFrom(from));
        due(-99, x.take(0));
        due(-99, x.take(0));
        due(-99, x.take(1));
        due(NOT, x.take(2));
        due(2, on("c").load(0));
        due(2, on("d").load(0));
        due(2, x.led(13));
        due(2, x.led(5));
        due(7, x.step(2));
        due(2, x.count(2));
        due(8, x.step(1));
        due(0, x.count(2));
        due(4, x.led(13));
        due(3, x.rule(7, 0));
        on("e").ask(3);
        x.step(1000);
        due(1, x.count(2));
    }

    void feed() {
        due(BAD, x.feed('a' - 1));
        due(BAD, x.feed('z' + 1));
        due(BAD, x.feed('A'));
        due(BAD, x.feed(31));
        due(BAD, x.feed(33));
        due(BAD, x.feed(0));
        due(BAD, x.feed(-1));
        due(BAD, x.feed('a' + 256));
        due(0, x.count(4));
        due(1, x.feed('a'));
        due(2, x.feed('z'));
        due(3, x.feed(' '));
        for (int n = 4; n <= 60; n++) {
            due(n, x.feed('m'));
        }
        due(FULL, x.feed('a'));
        due(FULL, x.feed(' '));
        due(BAD, x.feed(33));
        due(60, x.count(4));
        due(NO_KEY, x.ask(0));
        due(0, x.count(4));
        due(1, x.feed('q'));
    }
}
