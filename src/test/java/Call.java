import java.util.List;

/** A call with its arguments, to be made on any object. */
interface Call {
    long on(FrequencyShelf x);

    /** Each call that speaks of a key, with arguments that are right. */
    List<Call> OF_A_KEY = List.of(x -> x.ask(0), x -> x.giveUp(0), x -> x.write(1), x -> x.came(1, 1, 0),
            x -> x.failed(1), x -> x.load(0), x -> x.entry(0), FrequencyShelf::seen, FrequencyShelf::drop,
            FrequencyShelf::dropAll, x -> x.would(1), x -> x.follows(-1));

    /** Each way in which a call that reads the tape is bad. */
    List<Call> BAD_AT_THE_TAPE = List.of(x -> x.ask(-1), x -> x.ask(16), x -> x.giveUp(-1), x -> x.giveUp(16),
            x -> x.write(-1), x -> x.write(100000), x -> x.came(-1, 1, 0), x -> x.came(100000, 1, 0),
            x -> x.came(0, 0, 0), x -> x.came(0, 21, 0), x -> x.came(0, 1, -1), x -> x.came(0, 1, 256),
            x -> x.failed(0), x -> x.failed(100), x -> x.load(-1), x -> x.entry(-1), x -> x.entry(10),
            x -> x.would(0), x -> x.would(21), x -> x.follows(-3), x -> x.replay(-1, 1), x -> x.replay(4, 1),
            x -> x.replay(0, 0), x -> x.replay(0, 13));

    /** Ways in which the other calls are bad. */
    List<Call> BAD_ELSEWHERE = List.of(x -> x.rule(-1, 1), x -> x.rule(8, 1), x -> x.rule(0, 0), x -> x.rule(1, 501),
            x -> x.rule(2, -1), x -> x.rule(3, 1000), x -> x.rule(4, 9), x -> x.rule(5, 2), x -> x.rule(6, 21),
            x -> x.rule(7, 1000), x -> x.step(0), x -> x.step(1001), x -> x.feed(0), x -> x.take(16),
            x -> x.first(4, -2), x -> x.first(16, 0), x -> x.box(16, 0), x -> x.box(0, 2), x -> x.writtenOf(-1, 0),
            x -> x.writtenOf(0, -3), x -> x.of(0, 4), x -> x.told(-2, 0), x -> x.told(0, -2), x -> x.sketch(4, 0),
            x -> x.dropTag(8), x -> x.dropTag(-1), x -> x.tagged(8, 0), x -> x.tagged(0, 3), x -> x.toGo(-1, 0),
            x -> x.toGo(0, -3), x -> x.cold(-1, 0), x -> x.cold(0, -4), x -> x.replayed(4, 1), x -> x.replayed(0, 13),
            x -> x.text(-1, 0), x -> x.text(0, -2), x -> x.book(-1, 0), x -> x.book(0, 3), x -> x.led(14),
            x -> x.count(10));
}
