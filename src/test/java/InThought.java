import java.util.List;

/** "Terms", the paragraph of what is done in thought: replays, the book, the image; and how answers are told. */
final class InThought extends Script {
    private static final int ROOM = 0, WINDOW = 1, EXPIRES = 2, AHEAD = 3, LOADERS = 4, COLD = 6, LEASE = 7;
    private static final int LRU = 0, LFU = 1, FIFO = 2, AGED = 3;

    /** What a call adds to the book, kind and key's number, line by line. */
    private void dueInBook(String want, Runnable calls) {
        int from = bookSize();
        calls.run();
        StringBuilder got = new StringBuilder(bookSize() < 40 ? "" : "full ");
        for (int i = from; x.book(i, 0) >= 0; i++) {
            got.append(i == from ? "" : " ").append(x.book(i, 0)).append(':').append(x.book(i, 2));
        }
        dueText(want, got.toString());
    }

    // ---- in thought

    @Says("In thought: THE i-th TO GO; how many ENTRIES would go, if one of a KEY and WEIGHT came.")
    void termsInThoughtNothingGoes() {
        Twin looked = new Twin();
        looked.x.toGo(0, 0);
        looked.x.text(0, 0);
        looked.on("ab").would(20);
        looked.on("g").would(20);
        looked.on("a b a").replay(LRU, 1);
        looked.x.replayed(LFU, 1);
        dueText(new Twin().everything(), looked.everything());
    }

    @Says("REPLAY: THE TAPE is a row of KEYS parted by single blanks")
    void termsReplayOfKeysPartedBySingleBlanks() {
        due(1, on("a b a").replay(LRU, 2));
        due(0, on("abcdef").replay(LRU, 1));
        for (String tape : new String[] {"", " ", "a  b", " a", "a ", "a b ", "abcdefg", "a abcdefg b"}) {
            due(NO_KEY, on(tape).replay(LRU, 2));
        }
        // as many keys as sixty bytes hold
        due(0, on("a b c d e f g h i j k l m n o p q r s t u v w x y z a b c d").replay(LRU, 12));
        due(29, on("a a a a a a a a a a a a a a a a a a a a a a a a a a a a a a").replay(LRU, 1));
    }

    @Says("asked for one behind the other by an empty cache of n places (each KEY one): how many HITS")
    void termsReplayBeginsEmpty() {
        bring("a", 1, 20, 0);
        for (int rule = LRU; rule <= AGED; rule++) {
            due(0, on("a").replay(rule, 1));
            due(1, on("a a").replay(rule, 1));
            due(0, on("a b a b").replay(rule, 1));
            due(2, on("a b a b").replay(rule, 2));
            due(0, on("a b c d e f g h i j k l m a b").replay(rule, 12));
        }
    }

    @Says("by LRU (0: the least lately asked goes)")
    void termsReplayByLru() {
        due(2, on("a b a c a b").replay(LRU, 2));
        due(2, on("a b c a d a b").replay(LRU, 3));
        due(2, on("a a a b c a").replay(LRU, 2));
    }

    @Says("LFU (1: as told here, COUNTS never halved, at first 1; ties by LAST)")
    void termsReplayByLfu() {
        due(3, on("a a a b c a").replay(LFU, 2));
        // like counts: b was asked for last, though a came first in the one and b in the other
        due(3, on("a b a b c b").replay(LFU, 2));
        due(2, on("a b a b c a").replay(LFU, 2));
        due(3, on("b a a b c b").replay(LFU, 2));
        x.rule(WINDOW, 1);
        due(3, on("a a a b c a").replay(LFU, 2));
        x.rule(WINDOW, 4);
        due(5, on("a a a a b b c a").replay(LFU, 2));
    }

    @Says("FIFO (2: the first that came)")
    void termsReplayByFifo() {
        due(1, on("a b a c a b").replay(FIFO, 2));
        due(2, on("a a a b c a").replay(FIFO, 2));
        due(2, on("a b c a d b").replay(FIFO, 3));
    }

    @Says("AGED (3: as LFU, but all COUNTS are halved behind each WINDOW-th of these).")
    void termsReplayByAged() {
        x.rule(WINDOW, 4);
        // behind the 4th a counts 2; then b counts 2, and was asked for later
        due(4, on("a a a a b b c a").replay(AGED, 2));
        // in the first window of four there is no difference
        due(3, on("a a a b c a").replay(AGED, 2));
        // behind the 5th b counts 0, behind the 6th 1
        x.rule(WINDOW, 5);
        due(5, on("a a a a b b c a").replay(AGED, 2));
        x.rule(WINDOW, 2);
        due(4, on("a a a a b b c a").replay(AGED, 2));
        x.rule(WINDOW, 7);
        due(5, on("a a a a b b c a").replay(AGED, 2));
        x.rule(WINDOW, 500);
        due(5, on("a a a a b b c a").replay(AGED, 2));
        x.rule(WINDOW, 1);
        due(2, on("a a a b c a").replay(AGED, 2));
        x.rule(WINDOW, 4);
        // halved behind the 8th, too, not behind the 5th to 7th, nor the 9th
        due(5, on("a a a a a b c b c b c").replay(AGED, 2));
        // the uses of the cache itself do not count in it
        ask("q q");
        due(4, on("a a a a b b c a").replay(AGED, 2));
    }

    @Says("OF LATE: the KEYS of the latest 60 USES. REPLAYED OF LATE: REPLAY of these.")
    void termsOfLateKeepsTheLatest60() {
        ask("x y");
        for (int i = 0; i < 57; i++) {
            ask("a");
        }
        due(56, x.replayed(LRU, 12));
        ask("x");
        // x y a .. a x: the first x is kept still
        due(57, x.replayed(LRU, 12));
        due(1, on("x").follows(-1));
        ask("a");
        // y a .. a x a
        due(57, x.replayed(LRU, 12));
        due(1, on("x").follows(-1));
        due('a', on("x").follows(0));
        ask("x");
        due(58, x.replayed(LRU, 12));
        due(0, on("y").follows(-1));
        due(NO_KEY, x.ask(0));
        due(BAD, on("q").ask(16));
        due(58, x.replayed(LRU, 12));
    }

    // ---- the book

    @Says("THE BOOK: the latest 40 of what came to pass")
    void termsBookKeepsTheLatest40() {
        for (int i = 0; i < 40; i++) {
            x.step(1);
            on("a").write(i);
        }
        due(1, x.book(0, 1));
        due(40, x.book(39, 1));
        due(NOT, x.book(40, 1));
        x.step(1);
        on("b").write(5);
        due(2, x.book(0, 1));
        due(41, x.book(39, 1));
        due(315, x.book(39, 2));
        due(NOT, x.book(40, 1));
    }

    @Says({"0 HIT, 1 a LOAD was put in line, 2 joins, 3 LOAD told, 4 CAME (LET IN or made new), 5 CAME, not LET IN,"
            + " 6 FAILED,", "with its TICK and the KEY's number h (10: 0)."})
    void termsBookOfLoads() {
        x.rule(LOADERS, 1);
        x.rule(AHEAD, 3);
        dueInBook("1:314 3:314", () -> on("a").ask(0));
        dueInBook("2:314", () -> on("a").ask(1));
        dueInBook("", () -> on("a").ask(1));
        dueInBook("1:315", () -> on("b").ask(1));
        dueInBook("4:314 3:315", () -> on("a").came(1, 1, 0));
        dueInBook("6:315", () -> on("b").failed(1));
        dueInBook("0:314", () -> on("a").ask(0));
        x.step(3);
        int from = bookSize();
        dueInBook("0:314 1:314 3:314", () -> on("a").ask(0));
        due(3, x.book(from, 1));
        dueInBook("4:314", () -> on("a").came(2, 2, 0));
        dueInBook("1:316 3:316", () -> on("c").ask(0));
        x.rule(ROOM, 5);
        dueInBook("5:316", () -> on("c").came(2, 6, 0));
        due(0, x.book(0, 1));
    }

    @Says("7 an ENTRY went for place (a STALE one, too), 8 a STALE one went as it was asked for, or by sweep(),")
    void termsBookOfWhatWent() {
        x.rule(EXPIRES, 5);
        bring("a", 1, 5, 0);
        bring("b", 2, 5, 0);
        bring("c", 3, 5, 0);
        dueInBook("7:314", () -> x.rule(ROOM, 10));
        x.step(5);
        dueInBook("7:315", () -> x.rule(ROOM, 5));
        dueInBook("8:316 1:316 3:316", () -> on("c").ask(0));
        on("c").came(4, 1, 0);
        x.step(5);
        dueInBook("8:316", x::sweep);
        due(2, x.led(7));
    }

    @Says("9 by drop(), dropTag(), dropAll() (of several by CAME; COLD ones that go are in no BOOK)")
    void termsBookOfDrops() {
        x.rule(COLD, 5);
        x.rule(ROOM, 30);
        for (String key : "az ar aj ab b g".split(" ")) {
            bring(key, 1, 5, 1);
        }
        // those that stay are asked for in another order than they came in
        ask("g b ab ar az");
        x.rule(ROOM, 25);
        dueText("aj", coldOnes());
        dueInBook("9:9856 9:9848 9:9832", () -> due(4, on("a").dropAll()));
        bring("az", 1, 5, 2);
        dueInBook("9:315 9:320", () -> due(2, x.dropTag(0)));
        dueInBook("9:9856", () -> due(1, on("az").drop()));
    }

    @Says("COLD ones that go are in no BOOK")
    void termsBookHasNoColdOnes() {
        x.rule(COLD, 2);
        x.rule(EXPIRES, 9);
        for (String key : "a g o".split(" ")) {
            bring(key, 1, 5, 1);
        }
        dueInBook("7:314 7:320 7:328", () -> x.rule(ROOM, 1));
        dueText("g o", coldOnes());
        dueInBook("", () -> due(1, on("g").drop()));
        dueInBook("", () -> due(1, x.dropTag(0)));
        x.rule(ROOM, 5);
        bring("g", 1, 5, 1);
        bring("o", 1, 5, 1);
        x.rule(ROOM, 1);
        dueText("g o", coldOnes());
        dueInBook("", () -> due(1, on("g").dropAll()));
        x.step(9);
        dueInBook("", () -> due(1, x.sweep()));
        x.rule(ROOM, 5);
        bring("g", 1, 5, 1);
        x.rule(ROOM, 1);
        x.step(9);
        dueText("g", coldOnes());
        dueInBook("1:320 3:320", () -> on("g").ask(0));
        due(0, x.count(9));
    }

    @Says("10 halved,")
    void termsBookOfHalving() {
        x.rule(WINDOW, 2);
        ask("a");
        dueInBook("1:315 3:315 10:0", () -> on("b").ask(0));
        ask("a");
        dueInBook("10:0", () -> on("a").ask(0));
    }

    @Says({"12 WARMED (ahead of 4 or 5 for it), 13 a LEASE ran out (ahead of 6)",
        "11 WRITTEN (of one that goes, ahead of its going; what goes for place, ahead of 4)"})
    void termsBookOfWarmedLeasesAndWritten() {
        x.rule(COLD, 5);
        x.rule(ROOM, 5);
        bring("a", 1, 5, 0);
        bring("g", 1, 5, 0);
        on("g").write(2);
        dueInBook("12:314 11:320 7:320 4:314", () -> on("a").ask(0));
        x.rule(ROOM, 4);
        dueInBook("12:314 5:314", () -> on("a").ask(0));
        dueInBook("11:339", () -> on("z").write(2));
        x.rule(ROOM, 5);
        bring("b", 1, 2, 0);
        bring("c", 1, 2, 0);
        on("c").write(9);
        on("d").ask(0);
        dueInBook("7:315 11:316 7:316 4:317", () -> on("d").came(1, 5, 0));
        on("d").write(8);
        dueInBook("11:317", x::flush);
        on("d").write(8);
        dueInBook("11:317 9:317", () -> on("d").drop());
        x.rule(LEASE, 1);
        on("e").ask(0);
        dueInBook("13:318 6:318", () -> x.step(1));
    }

    @Says("AN IMAGE keeps all but THE TAPE.")
    void termsImageKeepsAllButTheTape() {
        Twin changed = new Twin();
        changed.x.image();
        changed.x.rule(ROOM, 200);
        changed.x.rule(EXPIRES, 1);
        changed.x.rule(LOADERS, 8);
        changed.x.step(50);
        changed.bring("q", 1, 1, 0);
        changed.on("a").ask(0);
        changed.on("g").write(5);
        changed.x.flush();
        changed.x.take(4);
        changed.on("abc");
        changed.x.back();
        due(3, changed.x.count(4));
        changed.x.seen();
        dueText(new Twin().everything(), changed.everything());
    }

    @Says("AN IMAGE keeps all but THE TAPE.")
    void termsImageKeepsWhatIsCountedOn() {
        x.rule(WINDOW, 5);
        bring("a", 1, 1, 0);
        bring("g", 2, 1, 0);
        ask("a");
        x.image();
        ask("q q q q q q q");
        on("q").came(3, 1, 0);
        x.back();
        // of late: a g a; the numbers of uses and entries go on from there; the window ends with the 5th use
        due(1, x.replayed(LRU, 2));
        due(0, on("q").follows(-1));
        due('a', on("g").follows(0));
        due(0, x.led(10));
        bring("o", 4, 1, 0);
        due(4, on("o").entry(4));
        due(3, on("o").entry(5));
        due(0, x.led(10));
        ask("o");
        due(1, x.led(10));
        due(5, on("o").entry(4));
    }

    @Says("AN IMAGE keeps all but THE TAPE.")
    void termsImageOfOneUseAlone() {
        on("a").ask(0);
        x.image();
        // as many more as are kept, so that nothing of the first is left
        for (int i = 0; i < 60; i++) {
            on("b").ask(0);
            on("b").failed(1);
            on("a").giveUp(0);
        }
        due('b', x.told(0, 0));
        x.back();
        due(1, x.told(-1, 0));
        due('a', x.told(0, 0));
        ask("g");
        due(1, on("a").follows(-1));
        due(0, on("b").follows(-1));
        due(2, on("a").load(0));
        due(1, on("a").load(1));
        due(0, x.box(0, 0));
    }

    // ---- answers

    @Says("Answers, of several the one named first: BAD (-1001): no such number, or it is not as said; NO_KEY (-1002); NOT"
            + " (-1003); FULL (-1004); STATE (-1005); WAITS is -1006.")
    void termsAnswersOfSeveralTheFirst() {
        due(-1001, BAD);
        due(-1002, NO_KEY);
        due(-1003, NOT);
        due(-1004, FULL);
        due(-1005, STATE);
        due(-1006, WAITS);
        // BAD ahead of NO_KEY, NOT, FULL, STATE
        due(BAD, x.ask(16));
        due(BAD, x.take(16));
        due(BAD, x.toGo(9, -3));
        due(BAD, x.first(16, 0));
        due(BAD, on("a").came(-1, 1, 0));
        x.seen();
        for (int i = 0; i < 60; i++) {
            x.feed('a');
        }
        due(BAD, x.feed('A'));
        due(FULL, x.feed('a'));
        // NO_KEY ahead of NOT and STATE
        due(NO_KEY, x.entry(0));
        due(NO_KEY, x.came(1, 1, 0));
        for (int i = 0; i < 99; i++) {
            x.step(1000);
        }
        due(FULL, x.step(1000));
        due(BAD, x.step(1001));
    }

    @Says("What is answered so changes nothing, but THE TAPE, where it is said.")
    void termsBadChangesNothing() {
        Twin.mustNotChange(this, "", BAD, Call.BAD_AT_THE_TAPE);
        Twin.mustNotChange(this, "g", BAD, Call.BAD_AT_THE_TAPE);
        Twin.mustNotChange(this, "", BAD, Call.BAD_ELSEWHERE);
    }

    @Says("What is answered so changes nothing, but THE TAPE, where it is said.")
    void termsNotAndStateChangeNothing() {
        Twin.mustNotChange(this, "", NOT, List.of(x -> x.take(9), x -> x.first(4, 1),
                x -> x.writtenOf(9, 0), x -> x.told(50, 0), x -> x.toGo(9, 0), x -> x.cold(9, 0), x -> x.text(9, 0),
                x -> x.book(40, 0)));
        Twin.mustNotChange(this, "zz", NOT, List.of(x -> x.entry(0), x -> x.load(2), x -> x.follows(0)));
        Twin.mustNotChange(this, "g", STATE, List.of(x -> x.came(1, 1, 0), x -> x.failed(1)));
        Twin.mustNotChange(this, "c", STATE, List.of(x -> x.came(1, 1, 0), x -> x.failed(1)));
        Twin.mustNotChange(this, "", STATE, List.of(x -> x.first(9, 0), FrequencyShelf::back));
    }

    @Says("What is answered so changes nothing, but THE TAPE, where it is said.")
    void termsFullChangesNothing() {
        bring("a", 1, 1, 0);
        x.rule(EXPIRES, 999);
        x.rule(LEASE, 999);
        for (int i = 0; i < 99; i++) {
            x.step(1000);
        }
        on("a").ask(0);
        due(2, on("a").load(0));
        due(FULL, x.step(1000));
        // the lease has not run out, no tick has passed
        due(2, on("a").load(0));
        due(99000, x.count(5));
        for (int i = 0; i < 60; i++) {
            x.feed(i % 2 == 0 ? 'a' : ' ');
        }
        x.feed('b');
        due(NO_KEY, x.replay(0, 1));
        for (int i = 0; i < 59; i++) {
            x.feed(i % 2 == 0 ? 'a' : ' ');
        }
        due(60, x.feed('a'));
        due(FULL, x.feed('b'));
        due(28, x.replay(0, 1));
    }
}
