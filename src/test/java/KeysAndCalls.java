/** "What it is": keys, the tape, and how many calls an object is used for. */
final class KeysAndCalls extends Script {
    private static final String SIXTY = "abcdefghijklmnopqrstuvwxyz abcdefghijklmnopqrstuvwxyz abcdef";

    @Says("the least often, least lately asked goes first;")
    void isLeastOftenLeastLatelyAskedFirstToGo() {
        bring("a", 1, 5, 0);
        bring("g", 2, 5, 0);
        bring("o", 3, 5, 0);
        bring("w", 4, 5, 0);
        on("a").ask(0);
        x.rule(0, 19);
        due(NOT, on("g").entry(0));
        x.rule(0, 14);
        due(NOT, on("o").entry(0));
        x.rule(0, 9);
        dueText("a 1 w5 c2", entries());
    }

    @Says("loads begun once for all who wait, some ahead of their time, some in a line;")
    void isLoadBegunOnceForAll() {
        x.rule(3, 1);
        for (int asker = 0; asker < 16; asker++) {
            due(WAITS, on("a").ask(asker));
        }
        due(1, x.led(2));
        due(16, on("a").came(1, 1, 0));
        x.step(1);
        on("b").ask(0);
        on("c").ask(0);
        due(1, on("a").ask(0));
        dueText("a b c", toldOnes());
        on("b").failed(1);
        dueText("a b c a", toldOnes());
    }

    @Says("KEYS are words of 1 to 6 letters a .. z")
    void isKeysOfOneToSixLetters() {
        for (Call call : Call.OF_A_KEY) {
            for (String key : new String[] {"a", "z", "az", "abcde", "abcdef", "zzzzzz"}) {
                due(0, call.on(new KeysAndCalls().on(key)) == NO_KEY ? 1 : 0);
            }
            due(NO_KEY, call.on(new FrequencyShelf()));
            due(NO_KEY, call.on(new KeysAndCalls().on("abcdefg")));
            due(NO_KEY, call.on(new KeysAndCalls().on(SIXTY.replace(' ', 'm'))));
        }
    }

    @Says("KEYS are words of 1 to 6 letters a .. z")
    void isEachKeyItsOwn() {
        String[] keys = {"a", "aa", "aaa", "aaaa", "aaaaa", "aaaaaa", "aaaaab", "baaaaa", "zzzzzz", "zzzzz", "z"};
        for (int i = 0; i < keys.length; i++) {
            bring(keys[i], i, 1, 0);
        }
        due(keys.length, x.count(0));
        for (int i = 0; i < keys.length; i++) {
            due(i, on(keys[i]).entry(0));
        }
    }

    @Says("by THE TAPE (60 bytes a .. z and blanks at most)")
    void isTapeOfSixtyBytesAtMost() {
        on(SIXTY);
        due(60, x.count(4));
        due(FULL, x.feed('a'));
        due(FULL, x.feed(' '));
        due(60, x.count(4));
    }

    @Says("where a call speaks of a KEY, it is THE TAPE as a whole")
    void isKeyTheTapeAsAWhole() {
        for (Call call : Call.OF_A_KEY) {
            for (String tape : new String[] {" ", " a", "a ", "a b", "  ", "a  b", "abcdef ", "abc def"}) {
                due(NO_KEY, call.on(new KeysAndCalls().on(tape)));
            }
        }
    }

    @Says("which is empty then")
    void isTapeEmptyThen() {
        for (Call call : Call.OF_A_KEY) {
            for (String tape : new String[] {"a", "abcdef", "abcdefg", "a b", " "}) {
                Script one = new KeysAndCalls();
                call.on(one.on(tape));
                due(0, one.x.count(4));
                due(1, one.x.feed('q'));
            }
        }
        // whatever the answer: NOT, STATE, a load that came, an entry that went
        bring("a", 1, 1, 0);
        on("b").ask(0);
        for (Call call : Call.OF_A_KEY) {
            call.on(on("b"));
            due(0, x.count(4));
            call.on(on("a"));
            due(0, x.count(4));
        }
    }

    @Says("NO_KEY, if it is none such (ahead of all else but BAD; the call changes nothing else; by BAD THE TAPE stays)")
    void isNoKeyAheadOfAllElse() {
        // with a key these would answer STATE or NOT
        due(STATE, on("zz").came(1, 1, 0));
        due(NO_KEY, x.came(1, 1, 0));
        due(STATE, on("zz").failed(1));
        due(NO_KEY, x.failed(1));
        due(NOT, on("zz").load(2));
        due(NO_KEY, x.load(2));
        due(NOT, on("zz").entry(0));
        due(NO_KEY, x.entry(0));
        due(NOT, on("zz").follows(0));
        due(NO_KEY, x.follows(0));
        x.rule(0, 1);
        due(NOT, on("zz").would(2));
        due(NO_KEY, x.would(2));
    }

    @Says("NO_KEY, if it is none such (ahead of all else but BAD;")
    void isBadAheadOfNoKey() {
        for (Call call : Call.BAD_AT_THE_TAPE) {
            due(BAD, call.on(x));
            due(BAD, call.on(new KeysAndCalls().on("abcdefg")));
            due(BAD, call.on(new KeysAndCalls().on(" ")));
        }
    }

    @Says("the call changes nothing else")
    void isNothingElseChangedByNoKey() {
        Twin.mustNotChange(this, "", NO_KEY, Call.OF_A_KEY);
        Twin.mustNotChange(this, "a ", NO_KEY, Call.OF_A_KEY);
    }

    @Says("by BAD THE TAPE stays")
    void isTapeLeftByBad() {
        on("abc");
        for (Call call : Call.BAD_AT_THE_TAPE) {
            due(BAD, call.on(x));
            due(3, x.count(4));
        }
        due(WAITS, x.ask(0));
        dueText("abc", toldOnes());
        on("a b");
        for (Call call : Call.BAD_AT_THE_TAPE) {
            due(BAD, call.on(x));
        }
        due(3, x.count(4));
        due(0, x.replay(0, 1));
    }

    @Says("An object is used for at most 512 calls after it has been made; what later calls answer is free.")
    void isAllKeptForFiveHundredAndTwelveCalls() {
        // 2 * 255 calls, and two to look: as many waits as can be, and none is lost
        for (int i = 0; i < 255; i++) {
            on(String.valueOf((char) ('a' + i / 16))).ask(i % 16);
        }
        due(16, x.box(0, 1));
        due(15, x.box(15, 1));
    }

    @Says("An object is used for at most 512 calls after it has been made; what later calls answer is free.")
    void isNoLoadLostInFiveHundredAndTwelveCalls() {
        // 26 keys of one letter and 151 of two: 2 * 26 + 3 * 151 calls, then six
        for (int i = 0; i < 26; i++) {
            on(String.valueOf((char) ('a' + i))).ask(0);
        }
        for (int i = 0; i < 151; i++) {
            on("" + (char) ('a' + i / 26) + (char) ('a' + i % 26)).ask(0);
        }
        due(175, x.count(3));
        due(177, x.box(0, 1));
        due(1, on("a").failed(1));
        due(174, x.count(3));
        due(-1, x.take(0));
    }
}
