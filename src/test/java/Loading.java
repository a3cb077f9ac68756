/** "Terms", the paragraph of the askers: hits, loads, the cold shelf, leases, who is let in, writes, boxes. */
final class Loading extends Script {
    private static final int ROOM = 0, EXPIRES = 2, AHEAD = 3, LOADERS = 4, WARY = 5, COLD = 6, LEASE = 7;

    private void bringAll(String keys, int weight) {
        int value = 0;
        for (String key : keys.split(" ")) {
            value++;
            bring(key, value, weight, 0);
        }
    }

    // ---- who asks

    @Says("ASKERS 0 .. 15.")
    void termsAskersFrom0To15() {
        due(WAITS, on("a").ask(0));
        due(WAITS, on("a").ask(15));
        due(BAD, on("a").ask(-1));
        due(BAD, x.ask(16));
        due(2, x.load(1));
        due(2, on("a").came(5, 1, 0));
        due(5, x.take(0));
        due(5, x.take(15));
    }

    @Says("HIT, if there is an ENTRY that is not STALE: its VALUE;")
    void termsHitTillItIsStale() {
        x.rule(EXPIRES, 3);
        bring("a", 9, 1, 0);
        x.step(2);
        due(9, on("a").ask(0));
        due(1, x.led(1));
        x.step(1);
        due(WAITS, on("a").ask(0));
        due(1, x.led(1));
    }

    @Says("if it is DUE and there is no LOAD of the KEY, a LOAD of it is put in line that nobody waits for.")
    void termsDueOneIsLoadedAhead() {
        x.rule(AHEAD, 2);
        x.rule(LOADERS, 1);
        bring("a", 9, 1, 0);
        x.step(1);
        due(9, on("a").ask(0));
        due(0, on("a").load(0));
        ask("b");
        x.step(1);
        due(9, on("a").ask(0));
        due(1, on("a").load(0));
        due(0, on("a").load(1));
        due(0, x.box(0, 0));
        // there is one in line, then one that runs: no other is put in line
        due(9, on("a").ask(0));
        due(1, x.count(3));
        on("b").failed(1);
        due(2, on("a").load(0));
        due(9, on("a").ask(0));
        due(0, x.count(3));
        due(1, x.count(2));
        due(3, x.led(2));
    }

    @Says("Otherwise (a STALE ENTRY goes at once) it WAITS")
    void termsStaleEntryGoesAtOnce() {
        x.rule(EXPIRES, 3);
        x.rule(COLD, 5);
        bring("a", 9, 1, 0);
        x.step(3);
        due(1, x.count(0));
        int from = bookSize();
        due(WAITS, on("a").ask(0));
        due(0, x.count(0));
        due(0, x.count(9));
        dueText("8 1 3", bookFrom(from));
        due(NOT, on("a").entry(0));
    }

    @Says("it joins who waits for it (once: if it waits already, nothing more)")
    void termsJoinsOnce() {
        due(WAITS, on("a").ask(2));
        due(WAITS, on("a").ask(2));
        due(1, on("a").load(1));
        due(0, x.led(3));
        due(WAITS, on("a").ask(3));
        due(WAITS, on("a").ask(3));
        due(2, on("a").load(1));
        due(1, x.led(3));
        dueText("1 3 2", bookFrom(0));
        due(4, x.led(0));
        due(2, on("a").failed(1));
        due(1, x.box(2, 0));
        due(1, x.box(3, 0));
    }

    @Says("else a LOAD is put in line for it")
    void termsLoadIsPutInLineForIt() {
        x.rule(LOADERS, 1);
        ask("a b");
        due(1, on("b").load(0));
        due(1, on("b").load(1));
        due(0, on("b").load(2));
        dueText("1 3 1", bookFrom(0));
    }

    @Says("LOADS run, LOADERS at most at once; the others are in line, the earliest first; whenever one may run (a LOAD"
            + " ended, LOADERS were told more, one was put in line), the first in line RUNS.")
    void termsFirstInLineRunsWhenOneMay() {
        ask("a b c d e f");
        due(2, x.count(2));
        due(4, x.count(3));
        dueText("a b", toldOnes());
        on("b").failed(1);
        dueText("a b c", toldOnes());
        on("a").came(1, 1, 0);
        dueText("a b c d", toldOnes());
        due(2, x.count(2));
        x.rule(LOADERS, 3);
        dueText("a b c d e", toldOnes());
        // told less: those that run go on, and none begins till fewer run than may
        x.rule(LOADERS, 1);
        due(3, x.count(2));
        on("c").failed(1);
        on("d").failed(1);
        due(1, x.count(2));
        due(1, on("f").load(0));
        on("e").failed(1);
        due(2, on("f").load(0));
    }

    @Says("TOLD: each LOAD that begins to run is told once: KEYS in that order (60 are kept, the latest).")
    void termsToldKeepsTheLatest60() {
        for (int i = 0; i < 60; i++) {
            String key = String.valueOf((char) ('a' + i % 26));
            ask(key);
            on(key).failed(1);
        }
        due(60, x.told(-1, 0));
        due('a', x.told(0, 0));
        due('h', x.told(59, 0));
        ask("z");
        due(60, x.told(-1, 0));
        due('b', x.told(0, 0));
        due('z', x.told(59, 0));
        due(NOT, x.told(60, 0));
        due(61, x.led(2));
    }

    // ---- the cold shelf

    @Says("an ENTRY that goes for place, and is not STALE, is put there (KEY, VALUE, WEIGHT, TAGS, SINCE), behind those"
            + " that are there; of more than COLD the first go")
    void termsColdKeepsTheLast() {
        x.rule(COLD, 2);
        x.rule(ROOM, 5);
        bring("abc", 7, 5, 130);
        x.step(4);
        bring("g", 8, 5, 1);
        dueText("abc", coldOnes());
        due(7, x.cold(0, -2));
        due(0, x.cold(0, -3));
        bring("o", 9, 5, 1);
        dueText("abc g", coldOnes());
        due(4, x.cold(1, -3));
        bring("w", 10, 5, 1);
        dueText("g o", coldOnes());
        // warmed, it shows its weight and tags
        on("g").ask(0);
        due(5, on("g").entry(1));
        due(1, on("g").entry(2));
    }

    @Says("an ENTRY that goes for place, and is not STALE, is put there")
    void termsStaleOneIsNotPutThere() {
        x.rule(COLD, 5);
        x.rule(EXPIRES, 3);
        bringAll("a g", 5);
        x.step(3);
        x.rule(ROOM, 5);
        due(1, x.count(0));
        due(0, x.count(9));
        due(1, x.led(7));
        // nor one that goes otherwise
        x.rule(EXPIRES, 0);
        on("g").drop();
        bring("o", 1, 5, 1);
        x.dropTag(0);
        bring("o", 1, 5, 1);
        on("o").dropAll();
        due(0, x.count(0));
        due(0, x.count(9));
    }

    @Says("of more than COLD the first go (told less COLD, too)")
    void termsLessColdAndTheFirstGo() {
        x.rule(COLD, 4);
        bringAll("a g o w", 5);
        x.rule(ROOM, 1);
        dueText("a g o w", coldOnes());
        due(4, x.rule(COLD, 4));
        dueText("a g o w", coldOnes());
        x.rule(COLD, 2);
        dueText("o w", coldOnes());
        x.rule(COLD, 20);
        dueText("o w", coldOnes());
        int from = bookSize();
        x.rule(COLD, 0);
        dueText("", coldOnes());
        dueText("", bookFrom(from));
    }

    @Says("An ASKER that finds no ENTRY that is not STALE, but a COLD one (not STALE by its SINCE; a STALE COLD one goes"
            + " then): its VALUE (no HIT), no LOAD")
    void termsColdOneAnswersTillItIsStale() {
        x.rule(COLD, 5);
        x.rule(EXPIRES, 10);
        x.rule(ROOM, 5);
        bring("a", 7, 5, 0);
        x.step(5);
        bring("g", 8, 5, 0);
        bring("o", 9, 5, 0);
        x.step(4);
        due(7, on("a").ask(3));
        due(0, x.led(1));
        due(0, x.of(3, 1));
        due(0, on("a").load(0));
        due(0, on("a").entry(6));
        dueText("g o", coldOnes());
        // a is in again, and goes as it is stale; g, which came 5 ticks later, is stale 5 ticks later
        x.step(5);
        due(8, on("g").ask(3));
        dueText("o", coldOnes());
        x.step(1);
        due(WAITS, on("o").ask(3));
        dueText("", coldOnes());
        due(2, on("o").load(0));
        due(2, x.led(12));
    }

    @Says("it is WARMED: it leaves THE COLD SHELF, and is LET IN as if it CAME (SINCE as it was; what goes for place may"
            + " be put there then), if it may")
    void termsWarmedOneIsLetIn() {
        x.rule(COLD, 1);
        x.rule(ROOM, 5);
        bring("a", 7, 5, 3);
        x.step(2);
        bring("g", 8, 5, 0);
        dueText("a", coldOnes());
        due(7, on("a").ask(0));
        // the shelf has one place: g finds it, for a has left
        dueText("g", coldOnes());
        dueText("a 7 w5 c2", entries());
        int[] want = {7, 5, 3, 2, 3, 3, 0, 0, 0, 0};
        for (int what = 0; what < 10; what++) {
            due(want[what], on("a").entry(what));
        }
        due(0, x.box(0, 0));
    }

    @Says("else it is put back as the last one.")
    void termsWarmedOneThatMayNotIsPutBack() {
        x.rule(COLD, 3);
        bringAll("a g o", 6);
        x.rule(ROOM, 5);
        dueText("a g o", coldOnes());
        int from = bookSize();
        // above room
        due(1, on("a").ask(0));
        dueText("g o a", coldOnes());
        dueText("12 5", bookFrom(from));
        due(0, x.count(0));
        due(0, on("a").load(0));
        due(3, on("o").ask(0));
        dueText("g a o", coldOnes());
        due(3, on("o").ask(0));
        dueText("g a o", coldOnes());
        // as heavy as the room
        x.rule(ROOM, 6);
        due(2, on("g").ask(0));
        dueText("a o", coldOnes());
        due(1, x.count(0));
    }

    @Says("A LOAD of a KEY that CAME takes its COLD one off.")
    void termsLoadThatCameTakesItsColdOneOff() {
        x.rule(COLD, 3);
        x.rule(AHEAD, 1);
        bringAll("a g", 10);
        x.step(1);
        on("a").ask(0);
        on("g").ask(0);
        x.rule(ROOM, 9);
        dueText("a g", coldOnes());
        // one that failed does not; one that came and is not let in does
        due(0, on("a").failed(1));
        dueText("a g", coldOnes());
        due(0, on("g").came(5, 10, 0));
        dueText("a", coldOnes());
        due(0, x.count(0));
    }

    // ---- leases

    @Says("LEASE: as step() ends, LOADS that began to run LEASE TICKS ago or more FAIL with code 99")
    void termsLeaseEndsAtItsLastTick() {
        x.rule(LEASE, 4);
        x.step(1);
        ask("a");
        x.step(3);
        due(2, on("a").load(0));
        due(NOT, x.take(0));
        x.step(1);
        due(0, on("a").load(0));
        due(-99, x.take(0));
        due(1, x.led(13));
        due(1, x.led(5));
        ask("b");
        x.step(1000);
        due(0, on("b").load(0));
        // told less, it ends with the next step, not at once
        ask("c");
        x.step(2);
        x.rule(LEASE, 1);
        due(2, on("c").load(0));
        x.step(1);
        due(0, on("c").load(0));
    }

    @Says("in the order in which they began to run (those that begin to run then do so at NOW).")
    void termsLeasesEndInTheOrderOfBeginning() {
        x.rule(LEASE, 4);
        ask("b a");
        x.step(1);
        ask("c d");
        int from = bookSize();
        x.step(4);
        dueText("13 6 3 13 6 3", bookFrom(from));
        due(315, x.book(from, 2));
        due(314, x.book(from + 3, 2));
        due(5, x.book(from + 2, 1));
        due(-99, x.take(0));
        // c waited in line for longer than the lease, but runs since now
        due(2, on("c").load(0));
        x.step(3);
        due(2, x.count(2));
        x.step(1);
        due(0, x.count(2));
        due(4, x.led(13));
    }

    // ---- loads that end

    @Says("FAILED with a code (1 .. 99)")
    void termsCodeFrom1To99() {
        ask("a b");
        due(BAD, on("a").failed(0));
        due(BAD, x.failed(100));
        due(1, x.failed(1));
        due(1, on("b").failed(99));
        due(-1, x.take(0));
        due(-99, x.take(0));
    }

    @Says("Each who waits is DELIVERED (in the order in which they began to wait): the VALUE, or minus the code.")
    void termsEachWhoWaitsIsDelivered() {
        for (int asker = 15; asker >= 0; asker--) {
            on("a").ask(asker);
        }
        on("a").giveUp(15);
        on("a").ask(15);
        due(14, on("a").load(2));
        due(15, on("a").load(17));
        due(16, on("a").came(4, 1, 0));
        for (int asker = 0; asker < 16; asker++) {
            due(1, x.box(asker, 0));
            due(0, x.box(asker, 1));
            due(4, x.take(asker));
        }
        due(16, x.led(8));
    }

    @Says("CAME: an ENTRY of the KEY that is there is made new (VALUE, WEIGHT, TAGS, SINCE; COUNT, LAST, CAME stay;")
    void termsMadeNewKeepsCountLastCame() {
        x.rule(AHEAD, 1);
        x.rule(EXPIRES, 5);
        bringAll("g a", 5);
        x.step(1);
        on("a").ask(0);
        on("a").ask(0);
        on("g").ask(0);
        // stale meanwhile: made new all the same
        x.step(4);
        due(1, on("a").entry(7));
        due(0, on("a").came(99, 7, 255));
        int[] want = {99, 7, 255, 3, 4, 2, 5, 0, 0, 0};
        for (int what = 0; what < 10; what++) {
            due(want[what], on("a").entry(what));
        }
    }

    @Says("others go, as below, till it finds place, itself never;")
    void termsMadeNewOneNeverGoesItself() {
        x.rule(AHEAD, 1);
        x.rule(COLD, 9);
        x.rule(LOADERS, 8);
        bringAll("a g o w", 5);
        x.step(1);
        ask("a g o w");
        ask("g o w");
        due('a', x.toGo(0, 0));
        // as heavy as it was, or lighter: none goes
        due(0, on("a").came(9, 5, 0));
        due(4, x.count(0));
        x.step(1);
        on("a").ask(0);
        on("a").ask(0);
        ask("g o w");
        due('a', x.toGo(0, 0));
        due(0, on("a").came(9, 6, 0));
        dueText("g", coldOnes());
        due(16, x.count(1));
        x.step(1);
        on("a").ask(0);
        ask("o w");
        due(0, on("a").came(9, 20, 0));
        dueText("g o w", coldOnes());
        due(1, x.count(0));
        due(20, x.count(1));
    }

    @Says("but if its WEIGHT is above ROOM, that ENTRY goes (not to THE COLD SHELF, below), and it is not LET IN)")
    void termsMadeNewAboveRoomGoes() {
        x.rule(AHEAD, 1);
        x.rule(COLD, 9);
        x.rule(ROOM, 10);
        bringAll("a g", 5);
        x.step(1);
        ask("a g");
        int from = bookSize();
        due(0, on("a").came(9, 10, 0));
        dueText("a 9 w10 c2", entries());
        dueText("7 4", bookFrom(from));
        x.step(1);
        ask("a");
        due(0, on("a").came(9, 11, 0));
        due(0, x.count(0));
        dueText("g", coldOnes());
        dueText("7 4 0 1 3 7 5", bookFrom(from));
        due(1, x.led(6));
    }

    @Says("if there is none: LET IN, if its WEIGHT is not above ROOM")
    void termsLetInUpToRoom() {
        x.rule(ROOM, 7);
        ask("a b");
        due(1, on("a").came(5, 8, 0));
        due(0, x.count(0));
        due(5, x.take(0));
        due(1, on("b").came(6, 7, 0));
        due(1, x.count(0));
    }

    @Says("and, if WARY and it does not find place, the one that is FIRST TO GO is STALE or its COUNT is less than SEEN"
            + " of the KEY (otherwise it is not: it is delivered alone).")
    void termsWaryLetsInWhatWasSeenMore() {
        x.rule(WARY, 1);
        x.rule(EXPIRES, 10);
        bring("a", 1, 10, 0);
        ask("a");
        // it finds place: let in, though it was seen less
        bring("g", 2, 10, 0);
        ask("g");
        due(20, x.count(1));
        // seen less, then as often: not let in, but delivered
        ask("o");
        due(1, on("o").came(3, 1, 0));
        due(3, x.take(0));
        ask("o");
        due(1, on("o").came(4, 1, 0));
        due(4, x.take(0));
        due(2, x.led(6));
        due(NOT, on("o").entry(0));
        ask("o");
        due(1, on("o").came(5, 1, 0));
        due(5, on("o").entry(0));
        due(NOT, on("a").entry(0));
        // the first to go is stale: let in, though seen less
        x.step(10);
        ask("w");
        due(1, on("w").came(6, 20, 0));
        due(6, on("w").entry(0));
        due(1, x.count(0));
    }

    @Says("the one that is FIRST TO GO is STALE or its COUNT is less than SEEN of the KEY")
    void termsWaryLooksAtTheFirstToGoAlone() {
        x.rule(WARY, 1);
        bringAll("a g", 10);
        ask("g g g o o");
        // a counts 1, g 4, and o was seen twice: it may take a's place, and with the same look g's, too
        due(1, on("o").would(10));
        due(2, on("o").would(11));
        due(1, on("o").came(3, 20, 0));
        dueText("o 3 w20 c2", entries());
        x.rule(WARY, 0);
        bringAll("w ab", 10);
        x.rule(WARY, 1);
        ask("w w ab ab ab");
        // the one that came first is not the first to go, and seen as often as the first to go is not enough
        due(3, x.toGo(0, -2));
        due('w', x.toGo(0, 0));
        due(NOT, on("o").would(1));
    }

    @Says("LET IN: its COUNT is SEEN of the KEY, LAST the number of the latest USE, CAME its own; ENTRIES go, the FIRST TO"
            + " GO first, till it finds place.")
    void termsLetInWithWhatWasSeen() {
        bringAll("a g o w", 5);
        ask("a");
        ask("ab ab ab c");
        on("ab").came(9, 6, 0);
        due(3, on("ab").entry(3));
        due(9, on("ab").entry(4));
        due(5, on("ab").entry(5));
        // g and o: a was asked for once more, w later
        dueText("w 4 w5 c1; a 1 w5 c2; ab 9 w6 c3", entries());
    }

    @Says("FAILED: nothing is kept; an ENTRY that is there stays.")
    void termsFailedKeepsNothing() {
        x.rule(AHEAD, 1);
        ask("a");
        on("a").failed(5);
        due(0, x.count(0));
        due(0, on("a").load(0));
        bring("g", 1, 1, 0);
        x.step(1);
        ask("g");
        due(2, on("g").load(0));
        due(0, on("g").failed(5));
        int[] want = {1, 1, 0, 2, 3, 1, 0, 0, 1, 0};
        for (int what = 0; what < 10; what++) {
            due(want[what], on("g").entry(what));
        }
    }

    // ---- writes

    @Says("A WRITE of a KEY: if there is an ENTRY that is not STALE, its VALUE becomes that, SINCE is NOW, and it is DIRTY"
            + " (no USE); otherwise the KEY with that VALUE is WRITTEN at once.")
    void termsWriteOfOneThatIsNotStale() {
        x.rule(EXPIRES, 5);
        bring("a", 1, 1, 0);
        x.step(4);
        due(1, on("a").write(7));
        due(7, on("a").entry(0));
        due(4, on("a").entry(6));
        due(1, on("a").entry(9));
        due(1, on("a").entry(3));
        due(1, x.led(0));
        due(0, x.led(11));
        x.step(5);
        due(0, on("a").write(8));
        dueText("a8", writtenOnes());
        due(7, on("a").entry(0));
        due(4, on("a").entry(6));
        due(0, on("b").write(9));
        dueText("a8 b9", writtenOnes());
        due(NOT, on("b").entry(0));
    }

    @Says("otherwise the KEY with that VALUE is WRITTEN at once.")
    void termsWriteOfAColdOneIsWrittenAtOnce() {
        x.rule(COLD, 2);
        bring("a", 1, 5, 0);
        x.rule(ROOM, 4);
        due(0, on("a").write(7));
        dueText("a7", writtenOnes());
        due(1, x.cold(0, -2));
    }

    @Says("A DIRTY ENTRY that goes (whyever) is WRITTEN as it goes;")
    void termsDirtyOneIsWrittenAsItGoes() {
        x.rule(EXPIRES, 9);
        x.rule(AHEAD, 3);
        for (String key : "a g o w ab aw".split(" ")) {
            bring(key, 1, 3, key.equals("g") ? 1 : 0);
            on(key).write(2);
        }
        due(1, on("w").drop());
        due(1, x.dropTag(0));
        due(1, on("ab").dropAll());
        // for place
        x.rule(ROOM, 8);
        dueText("w2 g2 ab2 a2", writtenOnes());
        // made new with a weight above room
        x.step(3);
        ask("o");
        on("o").came(5, 9, 0);
        dueText("w2 g2 ab2 a2 o2", writtenOnes());
        // stale, as it is asked for
        x.step(6);
        ask("aw");
        dueText("w2 g2 ab2 a2 o2 aw2", writtenOnes());
        bring("aw", 3, 1, 0);
        on("aw").write(4);
        x.step(9);
        due(1, x.sweep());
        dueText("w2 g2 ab2 a2 o2 aw2 aw4", writtenOnes());
        due(7, x.led(11));
        due(0, x.count(0));
    }

    @Says("FLUSHED, all DIRTY ones are, in the order in which they became DIRTY last, and are DIRTY no more.")
    void termsFlushedInTheOrderOfBecomingDirty() {
        x.rule(EXPIRES, 5);
        bringAll("a g o w", 1);
        on("o").write(10);
        on("a").write(20);
        on("g").write(30);
        on("o").write(40);
        // stale ones are flushed, too
        x.step(5);
        due(3, x.flush());
        dueText("a20 g30 o40", writtenOnes());
        due(0, x.count(8));
        due(0, x.flush());
        due(3, x.led(11));
        due(4, x.count(0));
    }

    @Says("A DIRTY one that is made new keeps its VALUE and stays DIRTY.")
    void termsDirtyOneMadeNewStaysDirty() {
        x.rule(AHEAD, 1);
        bringAll("a g", 1);
        x.step(1);
        ask("a");
        on("a").write(50);
        on("g").write(60);
        x.step(2);
        due(0, on("a").came(9, 2, 4));
        int[] want = {50, 2, 4, 2, 3, 1, 3, 0, 0, 1};
        for (int what = 0; what < 10; what++) {
            due(want[what], on("a").entry(what));
        }
        due(2, x.flush());
        dueText("a50 g60", writtenOnes());
    }

    @Says("WRITTEN: the latest 40.")
    void termsWrittenKeepsTheLatest40() {
        for (int i = 0; i < 40; i++) {
            on("a").write(i);
        }
        due(0, x.writtenOf(0, -1));
        due(39, x.writtenOf(39, -1));
        due(NOT, x.writtenOf(40, -1));
        on("b").write(40);
        due(1, x.writtenOf(0, -1));
        due(40, x.writtenOf(39, -1));
        due('b', x.writtenOf(39, 0));
        due(NOT, x.writtenOf(40, -1));
        due(41, x.led(11));
    }

    // ---- boxes

    @Says("DELIVERIES of an ASKER wait in its BOX (12 at most; of more the first goes), and are taken one by one.")
    void termsBoxKeepsTheLast12() {
        for (int i = 1; i <= 14; i++) {
            on("a").ask(7);
            on("a").ask(8);
            on("a").failed(i);
            if (i <= 3) {
                x.take(8);
            }
            due(Math.min(i, 12), x.box(7, 0));
            due(Math.max(0, i - 12), x.led(9));
        }
        for (int i = 3; i <= 14; i++) {
            due(-i, x.take(7));
        }
        due(NOT, x.take(7));
        due(14, x.of(7, 2));
        due(12, x.of(7, 3));
        due(11, x.box(8, 0));
        due(-4, x.take(8));
        due(28, x.led(8));
    }

    @Says("DELIVERIES of an ASKER wait in its BOX (12 at most; of more the first goes)")
    void termsAllBoxesFullAtOnce() {
        for (int i = 1; i <= 12; i++) {
            for (int asker = 0; asker < 16; asker++) {
                on("a").ask(asker);
            }
            due(16, on("a").failed(i));
        }
        for (int asker = 0; asker < 16; asker++) {
            due(12, x.box(asker, 0));
            due(-1, x.take(asker));
            due(11, x.box(asker, 0));
        }
        due(0, x.led(9));
        for (int i = 2; i <= 12; i++) {
            due(-i, x.take(15));
        }
    }

    @Says("It gives up: it waits for the KEY no more; a LOAD in line for which nobody waits then goes (one that RUNS goes"
            + " on).")
    void termsLoadInLineThatNobodyWaitsForGoes() {
        x.rule(LOADERS, 1);
        on("a").ask(0);
        on("b").ask(0);
        on("b").ask(1);
        on("c").ask(0);
        due(1, on("b").giveUp(0));
        due(1, on("b").load(0));
        due(1, on("b").giveUp(1));
        due(0, on("b").load(0));
        due(1, x.count(3));
        due(1, on("a").giveUp(0));
        due(2, on("a").load(0));
        due(0, on("a").load(1));
        due(1, x.box(0, 1));
        due(0, on("a").came(4, 1, 0));
        due(NOT, x.take(0));
        due(4, on("a").entry(0));
        dueText("a c", toldOnes());
    }

    @Says("a LOAD in line for which nobody waits then goes (one that RUNS goes on).")
    void termsLoadAheadStaysInLineTillOneGivesItUp() {
        x.rule(LOADERS, 1);
        x.rule(AHEAD, 1);
        bring("a", 1, 1, 0);
        ask("b");
        x.step(1);
        ask("a");
        due(1, on("a").load(0));
        due(0, on("a").giveUp(0));
        due(1, on("a").load(0));
        on("a").drop();
        due(WAITS, on("a").ask(0));
        due(1, on("a").giveUp(0));
        due(0, on("a").load(0));
    }
}
