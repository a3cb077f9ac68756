/** Promises 33 to 37: book, led, image, back, count. */
final class WhatCameToPass extends Script {
    public static void main(String[] args) {
        new WhatCameToPass().book();
        new WhatCameToPass().bookKeepsForty();
        new WhatCameToPass().led();
        new WhatCameToPass().imageAndBack();
        new WhatCameToPass().imageKeepsAll();
        new WhatCameToPass().count();
        end();
    }

    void book() {
        due(BAD, x.book(-1, 0));
        due(BAD, x.book(0, -1));
        due(BAD, x.book(0, 3));
        due(NOT, x.book(0, 0));
        due(NOT, x.book(Integer.MAX_VALUE, 2));
        x.step(11);
        on("zzzzzz").ask(0);
        x.step(1);
        on("zzzzzz").came(1, 1, 0);
        int h = 7;
        for (int i = 0; i < 6; i++) {
            h = h * 31 + 'z';
        }
        due(1, x.book(0, 0));
        due(11, x.book(0, 1));
        due(h, x.book(0, 2));
        due(3, x.book(1, 0));
        due(4, x.book(2, 0));
        due(12, x.book(2, 1));
        due(h, x.book(2, 2));
        due(NOT, x.book(3, 0));
        due(BAD, x.book(3, 3));
    }

    void bookKeepsForty() {
        for (int i = 0; i < 21; i++) {
            x.step(1);
            on("a").write(i);
            on("b").write(i);
        }
        due(2, x.book(0, 1));
        due(314, x.book(0, 2));
        due(11, x.book(39, 0));
        due(21, x.book(39, 1));
        due(315, x.book(39, 2));
        due(NOT, x.book(40, 0));
        due(42, x.led(11));
    }

    void led() {
        due(BAD, x.led(-1));
        due(BAD, x.led(14));
        x.rule(0, 10);
        x.rule(1, 5);
        x.rule(6, 3);
        bring("a", 1, 10, 0);
        on("a").ask(0);
        bring("g", 2, 10, 0);
        on("o").ask(1);
        on("o").ask(2);
        on("o").failed(3);
        on("a").ask(0);
        on("w").ask(0);
        x.rule(0, 5);
        on("w").came(1, 6, 0);
        on("w").write(4);
        x.rule(7, 1);
        on("z").ask(0);
        x.step(1);
        long[] want = {8, 1, 5, 1, 3, 2, 1, 3, 6, 0, 1, 1, 1, 1};
        for (int what = 0; what < want.length; what++) {
            due(want[what], x.led(what));
        }
    }

    void imageAndBack() {
        due(STATE, x.back());
        due(0, x.image());
        due(0, x.back());
        bring("a", 1, 5, 0);
        bring("g", 2, 5, 0);
        due(2, x.image());
        on("a").drop();
        on("ab c");
        x.step(5);
        x.rule(0, 33);
        due(2, x.back());
        due(4, x.count(4));
        due(NO_KEY, x.drop());
        dueText("a 1 w5 c1; g 2 w5 c1", entries());
        due(0, x.count(5));
        due(20, x.rule(0, 20));
        on("a").drop();
        on("g").drop();
        due(0, x.count(0));
        due(2, x.back());
        due(2, x.count(0));
        on("g").drop();
        due(1, x.image());
        on("a").drop();
        due(1, x.back());
        dueText("a 1 w5 c1", entries());
    }

    /** Laid back behind other calls that change each part, it goes on as one that never made those calls. */
    void imageKeepsAll() {
        WhatCameToPass plain = new WhatCameToPass();
        plain.change("a", "g", "o", 3);
        change("a", "g", "o", 3);
        String before = everything();
        dueText(plain.everything(), before);
        x.image();
        change("x", "yy", "abc", 4);
        for (String part : everything().split("\\|")) {
            due(-1, before.indexOf("|" + part + "|"));
        }
        x.back();
        dueText(before, everything());
        plain.change("q", "rr", "abd", 5);
        change("q", "rr", "abd", 5);
        dueText(plain.everything(), everything());
        due(plain.x.flush(), x.flush());
        dueText(plain.everything(), everything());
        x.back();
        dueText(before, everything());
    }

    private void change(String one, String two, String three, int n) {
        x.rule(1, 5);
        x.rule(2, 30 + n);
        x.rule(3, 4);
        x.rule(4, 8);
        x.rule(5, 0);
        x.rule(6, 2 + n);
        x.rule(7, 40 + n);
        bring(one, n, 9, 1);
        bring(two, n + 1, 9, 3);
        x.step(n);
        bring(three, n + 2, 9, 2);
        on(three).write(60 + n);
        on(two).write(50 + n);
        on("k" + two).write(n);
        x.rule(5, n % 2);
        x.rule(4, 1);
        x.step(4);
        on(three).ask(n);
        on("l" + one).ask(n);
        on("l" + two).ask(n + 1);
        on("l" + three).ask(n + 2);
        on("m" + one).ask(n + 2);
        on(three).failed(n);
        on("l" + one).failed(n);
    }

    private String everything() {
        StringBuilder all = new StringBuilder();
        all.append(entries()).append('|').append(coldOnes()).append('|').append(toldOnes()).append('|');
        all.append(writtenOnes()).append('|');
        for (int i = 0; i < 120; i++) {
            all.append(x.book(i / 3, i % 3)).append(' ');
        }
        all.append('|');
        for (String key : "a g o x yy abc q rr abd la lg lo lx lyy labc lq lrr labd ma mx mq".split(" ")) {
            all.append(on(key).load(0)).append(on(key).load(2)).append(on(key).follows(-1)).append(' ');
            all.append(on(key).entry(4)).append(on(key).entry(5)).append(on(key).entry(6)).append(' ');
        }
        all.append('|');
        for (int what = 0; what < 14; what++) {
            all.append(x.led(what)).append(' ');
        }
        all.append('|');
        for (int what = 0; what < 10; what++) {
            all.append(x.count(what)).append(' ');
        }
        for (int place = 0; place < 64; place++) {
            all.append(x.sketch(place / 16, place % 16)).append(' ');
            all.append(x.of(place / 4, place % 4)).append(' ');
        }
        for (int asker = 0; asker < 16; asker++) {
            int n = asker;
            all.append(x.box(asker, 0)).append(x.box(asker, 1)).append(text(i -> x.first(n, i))).append(' ');
        }
        for (int rule = 0; rule < 4; rule++) {
            all.append(x.replayed(rule, 3)).append(' ');
        }
        return all.toString();
    }

    void count() {
        due(BAD, x.count(-1));
        due(BAD, x.count(10));
        x.rule(2, 10);
        x.rule(6, 3);
        bring("a", 1, 9, 0);
        bring("g", 2, 9, 0);
        bring("o", 3, 9, 0);
        due(2, x.count(0));
        due(18, x.count(1));
        due(1, x.count(9));
        on("g").write(1);
        due(1, x.count(8));
        x.step(6);
        on("o").write(1);
        due(2, x.count(8));
        x.step(4);
        due(1, x.count(6));
        due(10, x.count(5));
        on("x").ask(3);
        on("y").ask(3);
        on("z").ask(3);
        on("z").ask(4);
        due(2, x.count(2));
        due(1, x.count(3));
        due(2, x.count(7));
        on("a b");
        due(3, x.count(4));
    }
}
