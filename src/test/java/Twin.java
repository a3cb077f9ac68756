/** An object led to a state that has something of everything; all of them are led alike. */
final class Twin extends Script {
    private static final String[] KEYS = {"a", "g", "o", "b", "c", "e"};
    private static final int[] LEAST = {1, 1, 0, 0, 1, 0, 0, 0};

    Twin() {
        x.rule(2, 30);
        x.rule(3, 2);
        x.rule(4, 1);
        x.rule(6, 3);
        x.rule(7, 9);
        bring("a", 1, 8, 1);
        bring("g", 2, 8, 2);
        bring("o", 3, 8, 4);
        on("g").write(22);
        on("q").write(5);
        on("e").ask(4);
        on("e").failed(6);
        on("b").ask(0);
        on("b").ask(1);
        on("c").ask(2);
        x.step(3);
        on("o").ask(3);
    }

    /** What all calls that only look tell, but for the tape; at the end the rules are told anew, to see them. */
    String everything() {
        StringBuilder all = new StringBuilder();
        entriesAndLoads(all);
        for (int i = 0; i < 4; i++) {
            all.append("\ngoes ").append(x.toGo(i, 0)).append(' ').append(x.toGo(i, -2));
            all.append(" cold ").append(x.cold(i, 0)).append(' ').append(x.cold(i, -2)).append(' ').append(x.cold(i, -3));
            all.append(" written ").append(x.writtenOf(i, 0)).append(' ').append(x.writtenOf(i, -1));
        }
        for (int i = 0; i < x.told(-1, 0); i++) {
            all.append("\ntold ").append(x.told(i, 0));
        }
        for (int i = 0; x.book(i, 0) >= 0; i++) {
            all.append("\nbook ").append(x.book(i, 0)).append(' ').append(x.book(i, 1)).append(' ').append(x.book(i, 2));
        }
        sums(all);
        for (int what = 0; what < LEAST.length; what++) {
            all.append("\nrule ").append(x.rule(what, LEAST[what]));
        }
        return all.toString();
    }

    private void entriesAndLoads(StringBuilder all) {
        for (String key : KEYS) {
            all.append('\n').append(key);
            for (int what = 0; what < 4; what++) {
                all.append(" load ").append(on(key).load(what));
            }
            int value = on(key).entry(0);
            all.append(" entry ").append(value);
            for (int what = 1; what < 10 && value != NOT; what++) {
                all.append(' ').append(on(key).entry(what));
            }
        }
    }

    private void sums(StringBuilder all) {
        for (int what = 0; what < 14; what++) {
            all.append("\nled ").append(x.led(what));
            all.append(what == 4 || what > 9 ? "" : " count " + x.count(what));
        }
        for (int asker = 0; asker < 5; asker++) {
            all.append("\nasker ").append(x.box(asker, 0)).append(' ').append(x.box(asker, 1));
            for (int what = 0; what < 4; what++) {
                all.append(' ').append(x.of(asker, what));
            }
        }
        all.append("\nfirst ").append(x.first(4, 0));
        for (int place = 0; place < 64; place++) {
            all.append(place % 16 == 0 ? "\nsketch " : " ").append(x.sketch(place / 16, place % 16));
        }
    }

    /** Two are led alike; one is called so, each time with these bytes on its tape; all else must be as it was. */
    static void mustNotChange(Script test, String tape, long answer, Iterable<Call> calls) {
        Twin called = new Twin();
        for (Call call : calls) {
            called.x.seen();
            test.due(answer, call.on(called.on(tape)));
        }
        called.x.seen();
        test.dueText(new Twin().everything(), called.everything());
    }
}
