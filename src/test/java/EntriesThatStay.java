/** Promises 18 to 29: entry, seen, sketch, drop, dropTag, dropAll, tagged, sweep, toGo, would, cold, follows. */
final class EntriesThatStay extends Script {
    public static void main(String[] args) {
        new EntriesThatStay().entry();
        new EntriesThatStay().seenAndSketch();
        new EntriesThatStay().drop();
        new EntriesThatStay().dropTag();
        new EntriesThatStay().dropAll();
        new EntriesThatStay().tagged();
        new EntriesThatStay().sweep();
        new EntriesThatStay().toGo();
        new EntriesThatStay().would();
        new EntriesThatStay().wouldIfWary();
        new EntriesThatStay().cold();
        new EntriesThatStay().follows();
        new EntriesThatStay().followsOfLateAlone();
        end();
    }

    void entry() {
        x.rule(2, 20);
        x.rule(3, 10);
        x.step(5);
        bring("abcdef", 0, 20, 255);
        due(BAD, on("abcdef").entry(-1));
        due(BAD, x.entry(10));
        due(6, x.count(4));
        due(0, x.entry(0));
        due(NO_KEY, x.entry(0));
        due(BAD, x.entry(10));
        due(20, on("abcdef").entry(1));
        due(255, on("abcdef").entry(2));
        due(1, on("abcdef").entry(3));
        due(1, on("abcdef").entry(4));
        due(1, on("abcdef").entry(5));
        due(5, on("abcdef").entry(6));
        due(NOT, on("abcde").entry(0));
        due(0, x.count(4));
        x.step(9);
        due(0, on("abcdef").entry(8));
        x.step(1);
        due(1, on("abcdef").entry(8));
        x.step(9);
        due(1, on("abcdef").entry(8));
        due(0, on("abcdef").entry(7));
        x.step(1);
        due(0, on("abcdef").entry(8));
        due(1, on("abcdef").entry(7));
        x.rule(2, 0);
        due(0, on("abcdef").entry(7));
        due(1, on("abcdef").entry(8));
        x.rule(3, 0);
        due(0, on("abcdef").entry(8));
        due(1, x.led(0));
    }

    void seenAndSketch() {
        due(NO_KEY, x.seen());
        due(NO_KEY, on("a a").seen());
        due(0, on("zebra").seen());
        int h = 7;
        for (char letter : "zebra".toCharArray()) {
            h = h * 31 + letter;
        }
        on("zebra").ask(0);
        on("zebra").ask(1);
        for (int row = 0; row < 4; row++) {
            int place = ((h * (2 * row + 1)) >>> (3 + 5 * row)) % 16;
            for (int other = 0; other < 16; other++) {
                due(other == place ? 2 : 0, x.sketch(row, other));
            }
        }
        due(2, on("zebra").seen());
        for (int i = 0; i < 12; i++) {
            on("zebra").ask(0);
        }
        due(14, on("zebra").seen());
        on("zebra").ask(0);
        due(15, on("zebra").seen());
        on("zebra").ask(0);
        due(7, on("zebra").seen());
        due(BAD, x.sketch(-1, 0));
        due(BAD, x.sketch(4, 0));
        due(BAD, x.sketch(0, -1));
        due(BAD, x.sketch(0, 16));
        x.rule(1, 500);
        for (int i = 0; i < 20; i++) {
            on("zebra").ask(0);
        }
        due(15, on("zebra").seen());
    }

    void drop() {
        due(NO_KEY, x.drop());
        due(NO_KEY, on("a b").drop());
        due(0, on("a").drop());
        x.rule(0, 10);
        x.rule(6, 5);
        bring("a", 1, 5, 0);
        bring("b", 2, 10, 0);
        dueText("a", coldOnes());
        int from = bookSize();
        due(1, on("a").drop());
        due(0, x.count(9));
        dueText("", bookFrom(from));
        on("b").ask(0);
        due(1, on("b").drop());
        due(0, x.count(0));
        due(0, x.count(9));
        dueText("0 9", bookFrom(from));
        due(0, on("b").drop());
        on("c").ask(0);
        due(0, on("c").drop());
        due(2, on("c").load(0));
        due(1, x.led(7));
    }

    void dropTag() {
        due(BAD, x.dropTag(-1));
        due(BAD, x.dropTag(8));
        due(0, x.dropTag(0));
        x.rule(6, 5);
        bring("a", 1, 4, 129);
        bring("g", 2, 4, 128);
        bring("o", 3, 4, 1);
        bring("w", 4, 4, 129);
        bring("ab", 5, 4, 2);
        on("a").ask(0);
        on("a").ask(0);
        on("w").write(44);
        x.rule(0, 16);
        x.rule(0, 20);
        dueText("g", coldOnes());
        int from = bookSize();
        due(3, x.dropTag(7));
        dueText("9 11 9", bookFrom(from));
        due(314, x.book(from, 2));
        due(217 + 'w', x.book(from + 2, 2));
        due(0, x.count(9));
        due(2, x.count(0));
        due(0, x.dropTag(7));
        due(1, x.dropTag(0));
        due(1, x.dropTag(1));
        due(0, x.count(0));
    }

    void dropAll() {
        due(NO_KEY, x.dropAll());
        due(NO_KEY, on("abcdefg").dropAll());
        due(NO_KEY, on("a ").dropAll());
        x.rule(6, 5);
        bring("abcdef", 1, 4, 0);
        bring("abc", 2, 4, 0);
        bring("ab", 3, 4, 0);
        bring("b", 4, 4, 0);
        bring("acb", 5, 4, 0);
        for (String key : new String[] {"abcdef", "ab", "b", "acb"}) {
            on(key).ask(0);
            on(key).ask(0);
        }
        x.rule(0, 16);
        dueText("abc", coldOnes());
        int from = bookSize();
        due(0, on("abd").dropAll());
        due(0, on("c").dropAll());
        due(2, on("abc").dropAll());
        dueText("9", bookFrom(from));
        due(0, x.count(4));
        due(2, on("a").dropAll());
        dueText("9 9 9", bookFrom(from));
        due(7 * 31 * 31 + 97 * 31 + 98, x.book(from + 1, 2));
        due(0, on("bb").dropAll());
        due(1, on("b").dropAll());
    }

    void tagged() {
        due(BAD, x.tagged(-1, 0));
        due(BAD, x.tagged(8, 0));
        due(BAD, x.tagged(0, -1));
        due(BAD, x.tagged(0, 3));
        x.rule(2, 5);
        bring("a", 1, 4, 1);
        bring("g", 2, 5, 3);
        bring("o", 3, 6, 128);
        on("a").ask(0);
        due(2, x.tagged(0, 0));
        due(9, x.tagged(0, 1));
        due(3, x.tagged(0, 2));
        due(1, x.tagged(1, 0));
        due(0, x.tagged(2, 0));
        due(0, x.tagged(2, 1));
        due(6, x.tagged(7, 1));
        x.step(5);
        due(2, x.tagged(0, 0));
    }

    void sweep() {
        due(0, x.sweep());
        x.rule(2, 10);
        x.rule(6, 9);
        bring("a", 1, 4, 0);
        bring("g", 2, 4, 0);
        bring("o", 3, 4, 0);
        on("a").ask(0);
        on("o").ask(0);
        x.rule(0, 8);
        dueText("g", coldOnes());
        x.rule(0, 20);
        x.step(5);
        bring("w", 4, 4, 0);
        on("o").write(33);
        x.step(4);
        due(0, x.sweep());
        due(0, x.count(6));
        x.step(1);
        due(1, x.count(6));
        int from = bookSize();
        due(2, x.sweep());
        dueText("8", bookFrom(from));
        due(0, x.count(9));
        due(2, x.count(0));
        x.step(5);
        due(2, x.sweep());
        dueText("8 11 8 8", bookFrom(from));
        dueText("o33", writtenOnes());
        due(1, x.led(7));
    }

    void toGo() {
        due(NOT, x.toGo(0, -1));
        due(NOT, x.toGo(0, -2));
        due(BAD, x.toGo(-1, 0));
        due(BAD, x.toGo(0, -3));
        x.rule(2, 10);
        bring("ab", 1, 1, 0);
        x.step(2);
        // let in behind the same use: the least that came goes first
        on("x").ask(0);
        on("y").ask(0);
        on("x").came(2, 1, 0);
        on("y").came(3, 1, 0);
        for (int i = 0; i < 3; i++) {
            on("ab").ask(0);
        }
        due(2, x.toGo(0, -2));
        due('x', x.toGo(0, 0));
        due('y', x.toGo(1, 0));
        due('a', x.toGo(2, 0));
        due('b', x.toGo(2, 1));
        due(NOT, x.toGo(2, 2));
        due(2, x.toGo(2, -1));
        due(1, x.toGo(1, -1));
        due(4, x.toGo(2, -2));
        due(NOT, x.toGo(3, 0));
        due(NOT, x.toGo(Integer.MAX_VALUE, 0));
        on("x").ask(0);
        on("y").ask(0);
        on("x").ask(0);
        on("y").ask(0);
        due('a', x.toGo(0, 0));
        due('x', x.toGo(1, 0));
        on("x").ask(0);
        due('y', x.toGo(1, 0));
        on("ab").ask(0);
        on("ab").ask(0);
        due('y', x.toGo(0, 0));
        x.step(8);
        due('a', x.toGo(0, 0));
        due('y', x.toGo(1, 0));
        due('x', x.toGo(2, 0));
    }

    void would() {
        due(BAD, on("a").would(0));
        due(BAD, x.would(21));
        due(1, x.count(4));
        due(0, x.would(20));
        due(NO_KEY, x.would(1));
        due(NO_KEY, on("a b").would(1));
        bring("a", 1, 5, 0);
        bring("g", 2, 5, 0);
        bring("o", 3, 10, 0);
        due(1, on("w").would(5));
        due(2, on("w").would(6));
        due(2, on("w").would(10));
        due(3, on("w").would(11));
        due(0, on("a").would(5));
        due(1, on("a").would(6));
        due(1, on("a").would(10));
        due(2, on("a").would(11));
        due(2, on("o").would(20));
        due(0, on("o").would(1));
        x.rule(0, 10);
        due(NOT, on("w").would(11));
        due(NOT, on("o").would(11));
        due(1, on("w").would(10));
        due(1, x.count(0));
        due(3, x.led(0));
    }

    void wouldIfWary() {
        x.rule(2, 10);
        bring("a", 1, 10, 0);
        bring("g", 2, 10, 0);
        x.rule(5, 1);
        on("o").ask(0);
        due(NOT, on("o").would(1));
        due(1, on("a").would(11));
        on("o").ask(0);
        due(1, on("o").would(1));
        due(NOT, on("w").would(1));
        x.step(10);
        due(1, on("w").would(1));
        due(2, on("w").would(11));
        due(2, x.count(0));
    }

    void cold() {
        due(NOT, x.cold(0, 0));
        due(BAD, x.cold(-1, 0));
        due(BAD, x.cold(0, -4));
        x.rule(6, 2);
        x.rule(0, 5);
        x.step(3);
        bring("abc", 9, 5, 1);
        x.step(3);
        bring("g", 8, 5, 1);
        due(1, x.count(9));
        dueText("abc", text(j -> x.cold(0, j)));
        due(3, x.cold(0, -1));
        due(9, x.cold(0, -2));
        due(3, x.cold(0, -3));
        due(NOT, x.cold(0, 3));
        due(NOT, x.cold(1, -1));
        due(BAD, x.cold(1, -4));
        bring("o", 7, 5, 1);
        dueText("abc g", coldOnes());
        bring("w", 6, 5, 1);
        dueText("g o", coldOnes());
        // a stale one that goes for place is not put there
        x.rule(2, 10);
        x.step(10);
        bring("z", 6, 5, 1);
        dueText("g o", coldOnes());
        due(4, x.led(7));
    }

    void follows() {
        due(BAD, on("a").follows(-3));
        due(1, x.count(4));
        due(0, x.follows(-1));
        due(NO_KEY, x.follows(-1));
        due(NO_KEY, on("a b").follows(0));
        due(NOT, on("a").follows(-2));
        due(NOT, on("a").follows(0));
        for (String key : "a bc a d a d a bc bc".split(" ")) {
            on(key).ask(0);
        }
        due(2, on("a").follows(-1));
        due(2, on("a").follows(-2));
        due('b', on("a").follows(0));
        due('c', on("a").follows(1));
        due(NOT, on("a").follows(2));
        due(NOT, on("a").follows(Integer.MAX_VALUE));
        due(1, on("bc").follows(-1));
        due('a', on("bc").follows(0));
        due(2, on("d").follows(-1));
        due(0, on("zz").follows(-1));
        on("bc").ask(0);
        due(2, on("bc").follows(-1));
        due('b', on("bc").follows(0));
    }

    void followsOfLateAlone() {
        on("x").ask(0);
        on("y").ask(0);
        for (int i = 0; i < 58; i++) {
            on("a").ask(0);
        }
        due(1, on("x").follows(-1));
        due(57, on("a").follows(-1));
        on("b").ask(0);
        due(0, on("x").follows(-1));
        due(1, on("y").follows(-1));
        due(0, on("b").follows(-1));
    }
}
