/** Promises 30 to 32: replay, replayed, text. */
final class OtherRules extends Script {
    public static void main(String[] args) {
        new OtherRules().replayAnswers();
        new OtherRules().replayRules();
        new OtherRules().aged();
        new OtherRules().replayed();
        new OtherRules().text();
        end();
    }

    void replayAnswers() {
        due(BAD, on("a").replay(-1, 1));
        due(BAD, x.replay(4, 1));
        due(BAD, x.replay(0, 0));
        due(BAD, x.replay(0, 13));
        due(1, x.count(4));
        due(0, x.replay(0, 1));
        due(0, x.count(4));
        due(NO_KEY, x.replay(0, 1));
        for (String row : new String[] {" ", " a", "a ", "a  b", "abcdefg", "a abcdefg", "abcdefg a"}) {
            due(NO_KEY, on(row).replay(3, 12));
            due(0, x.count(4));
        }
        due(1, on("abcdef a abcdef").replay(2, 12));
        due(28, on("a b a b a b a b a b a b a b a b a b a b a b a b a b a b a b ".trim()).replay(0, 2));
        due(0, x.led(0));
        due(0, x.count(0));
    }

    void replayRules() {
        // lru: d takes b's place, b c's; lfu: d takes b's place, as a counts 2; fifo: d takes a's place, b stays
        String row = "a b c a d b";
        due(1, on(row).replay(0, 3));
        due(1, on(row).replay(1, 3));
        due(2, on(row).replay(2, 3));
        due(3, on("a a a b c a").replay(1, 2));
        due(2, on("a a a b c a").replay(0, 2));
        due(2, on("a a a b c a").replay(2, 2));
        // of like counts the least lately asked goes, not the first that came
        due(3, on("a b b a c a").replay(1, 2));
        due(2, on("a b b a c b").replay(1, 2));
        for (int rule = 0; rule < 4; rule++) {
            due(0, on("a b a b").replay(rule, 1));
            due(2, on("a b a b").replay(rule, 2));
            due(3, on("a a a a").replay(rule, 1));
        }
    }

    void aged() {
        x.rule(1, 4);
        due(3, on("a a a a b").replay(3, 2));
        // by lfu c takes b's place; by aged a's, whose count is 2 behind the 4th, like b's, and asked less lately
        due(5, on("a a a a b b c a").replay(1, 2));
        due(4, on("a a a a b b c a").replay(3, 2));
        // halved behind the 8th too: when c comes, a and b both count 2, and a was asked for less lately
        due(8, on("a a a a a b b a b c b").replay(3, 2));
        x.rule(1, 500);
        due(5, on("a a a a b b c a").replay(3, 2));
        x.rule(1, 1);
        // all counts are 0 behind each, so it goes as by lru
        due(1, on("a b c a d b").replay(3, 3));
    }

    void replayed() {
        due(BAD, x.replayed(-1, 1));
        due(BAD, x.replayed(4, 1));
        due(BAD, x.replayed(0, 0));
        due(BAD, x.replayed(0, 13));
        due(0, x.replayed(0, 1));
        for (String key : "a b c a d b".split(" ")) {
            on(key).ask(0);
        }
        on("tape");
        due(1, x.replayed(0, 3));
        due(1, x.replayed(1, 3));
        due(2, x.replayed(2, 3));
        due(1, x.replayed(3, 3));
        due(4, x.count(4));
        due(2, x.replayed(0, 12));
        x.ask(0);
        for (int i = 0; i < 59; i++) {
            on("q").ask(0);
        }
        // of the uses ahead of these, the latest alone is left
        due(58, x.replayed(0, 12));
        on("q").ask(0);
        due(59, x.replayed(0, 12));
        on("q").ask(0);
        due(59, x.replayed(0, 12));
    }

    void text() {
        due(BAD, x.text(-1, 0));
        due(BAD, x.text(0, -2));
        due(NOT, x.text(0, 0));
        due(NOT, x.text(0, -1));
        x.rule(2, 5);
        bring("abcdef", 12345, 20, 0);
        dueText("abcdef 12345 w20 c1", entries());
        due(19, x.text(0, -1));
        due('1', x.text(0, 18));
        due(NOT, x.text(0, 19));
        due(NOT, x.text(0, Integer.MAX_VALUE));
        due(NOT, x.text(1, -1));
        on("abcdef").write(0);
        dueText("abcdef 0 w20 c1 dirty", entries());
        x.step(5);
        dueText("abcdef 0 w20 c1 dirty stale", entries());
        x.flush();
        dueText("abcdef 0 w20 c1 stale", entries());
        for (int i = 0; i < 3; i++) {
            x.rule(2, 0);
            on("abcdef").ask(0);
        }
        dueText("abcdef 0 w20 c4", entries());
    }
}
