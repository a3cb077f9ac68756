import java.util.ArrayDeque;
import java.util.ArrayList;
import java.util.Arrays;
import java.util.Comparator;
import java.util.LinkedHashMap;
import java.util.List;
import java.util.Map;
import java.util.function.Predicate;

/** The document told once more, with the Java library and without care for memory, to compare the program with. */
final class Model {
    static final int BAD = -1001, NO_KEY = -1002, NOT = -1003, FULL = -1004, STATE = -1005, WAITS = -1006;
    private static final int[] LEAST = {1, 1, 0, 0, 1, 0, 0, 0};
    private static final int[] MOST = {200, 500, 999, 999, 8, 1, 20, 999};

    private static final class Entry {
        String key;
        int value, weight, tags, count, last, came, since, dirty;

        Entry copy() {
            Entry e = new Entry();
            e.key = key;
            e.value = value;
            e.weight = weight;
            e.tags = tags;
            e.count = count;
            e.last = last;
            e.came = came;
            e.since = since;
            e.dirty = dirty;
            return e;
        }
    }

    private static final class Load {
        String key;
        int began;
        List<Integer> waiting = new ArrayList<>();

        Load copy() {
            Load l = new Load();
            l.key = key;
            l.began = began;
            l.waiting.addAll(waiting);
            return l;
        }
    }

    private record Parcel(String key, int value) { }

    private record Line(int kind, int tick, int h) { }

    /** All but the tape. */
    private static final class World {
        int now, uses, inWindow, cames, dirties;
        int[] rules = {20, 16, 0, 0, 2, 0, 0, 0};
        int[][] sketch = new int[4][16];
        List<Entry> entries = new ArrayList<>();
        List<Entry> cold = new ArrayList<>();
        List<Load> running = new ArrayList<>();
        List<Load> line = new ArrayList<>();
        List<List<Parcel>> boxes = new ArrayList<>();
        int[][] of = new int[16][4];
        long[] led = new long[14];
        List<String> told = new ArrayList<>();
        List<String> late = new ArrayList<>();
        List<Parcel> written = new ArrayList<>();
        List<Line> book = new ArrayList<>();

        World() {
            for (int i = 0; i < 16; i++) {
                boxes.add(new ArrayList<>());
            }
        }

        World copy() {
            World w = new World();
            w.now = now;
            w.uses = uses;
            w.inWindow = inWindow;
            w.cames = cames;
            w.dirties = dirties;
            w.rules = rules.clone();
            for (int i = 0; i < 4; i++) {
                w.sketch[i] = sketch[i].clone();
            }
            entries.forEach(e -> w.entries.add(e.copy()));
            cold.forEach(e -> w.cold.add(e.copy()));
            running.forEach(l -> w.running.add(l.copy()));
            line.forEach(l -> w.line.add(l.copy()));
            for (int i = 0; i < 16; i++) {
                w.boxes.get(i).addAll(boxes.get(i));
                w.of[i] = of[i].clone();
            }
            w.led = led.clone();
            w.told.addAll(told);
            w.late.addAll(late);
            w.written.addAll(written);
            w.book.addAll(book);
            return w;
        }
    }

    private final StringBuilder tape = new StringBuilder();
    private World w = new World();
    private World kept = null;

    // ---- small things

    private static <T> void keep(List<T> list, T one, int most) {
        list.add(one);
        if (list.size() > most) {
            list.remove(0);
        }
    }

    private String word() {
        String all = tape.toString();
        tape.setLength(0);
        return all.matches("[a-z]{1,6}") ? all : null;
    }

    private static int h(String key) {
        int h = 7;
        for (char c : key.toCharArray()) {
            h = h * 31 + c;
        }
        return h;
    }

    private static int place(String key, int r) {
        return ((h(key) * (2 * r + 1)) >>> (3 + 5 * r)) % 16;
    }

    private int seenOf(String key) {
        int least = 99;
        for (int r = 0; r < 4; r++) {
            least = Math.min(least, w.sketch[r][place(key, r)]);
        }
        return least;
    }

    private void note(int kind, String key) {
        keep(w.book, new Line(kind, w.now, key == null ? 0 : h(key)), 40);
    }

    private boolean stale(Entry e) {
        return w.rules[2] != 0 && w.now - e.since >= w.rules[2];
    }

    private boolean due(Entry e) {
        return !stale(e) && w.rules[3] != 0 && w.now - e.since >= w.rules[3];
    }

    private static Entry find(List<Entry> list, String key) {
        return list.stream().filter(e -> e.key.equals(key)).findFirst().orElse(null);
    }

    private static Load findLoad(List<Load> list, String key) {
        return list.stream().filter(l -> l.key.equals(key)).findFirst().orElse(null);
    }

    private List<Entry> order() {
        List<Entry> sorted = new ArrayList<>(w.entries);
        sorted.sort(Comparator.<Entry>comparingInt(e -> stale(e) ? 0 : 1).thenComparingInt(e -> e.count)
                .thenComparingInt(e -> e.last).thenComparingInt(e -> e.came));
        return sorted;
    }

    private int weightOf(List<Entry> list) {
        return list.stream().mapToInt(e -> e.weight).sum();
    }

    private static boolean asker(int a) {
        return a >= 0 && a <= 15;
    }

    private static int at(String text, int i) {
        return i == -1 ? text.length() : i < text.length() ? text.charAt(i) : NOT;
    }

    // ---- what happens

    private void written(String key, int value) {
        keep(w.written, new Parcel(key, value), 40);
        note(11, key);
        w.led[11]++;
    }

    private void go(Entry e, int kind) {
        if (e.dirty != 0) {
            written(e.key, e.value);
        }
        note(kind, e.key);
        w.entries.remove(e);
    }

    private void trimCold() {
        while (w.cold.size() > w.rules[6]) {
            w.cold.remove(0);
        }
    }

    private void goForPlace(Entry e, boolean toCold) {
        go(e, 7);
        w.led[7]++;
        if (toCold && !stale(e)) {
            Entry c = e.copy();
            c.dirty = 0;
            w.cold.add(c);
            trimCold();
        }
    }

    private void makePlace(int most, Entry spared) {
        List<Entry> order = order();
        order.remove(spared);
        while (weightOf(w.entries) > most) {
            goForPlace(order.remove(0), true);
        }
    }

    private boolean may(String key, int weight) {
        if (weight > w.rules[0]) {
            return false;
        }
        boolean finds = weightOf(w.entries) + weight <= w.rules[0];
        if (finds || w.rules[5] == 0) {
            return true;
        }
        Entry f = order().get(0);
        return stale(f) || f.count < seenOf(key);
    }

    private void letIn(String key, int value, int weight, int tags, int since) {
        makePlace(w.rules[0] - weight, null);
        Entry e = new Entry();
        e.key = key;
        e.value = value;
        e.weight = weight;
        e.tags = tags;
        e.since = since;
        e.count = seenOf(key);
        e.last = w.uses;
        e.came = ++w.cames;
        w.entries.add(e);
    }

    private void run() {
        while (w.running.size() < w.rules[4] && !w.line.isEmpty()) {
            Load l = w.line.remove(0);
            l.began = w.now;
            w.running.add(l);
            keep(w.told, l.key, 60);
            note(3, l.key);
            w.led[2]++;
        }
    }

    private Load putInLine(String key) {
        Load l = new Load();
        l.key = key;
        w.line.add(l);
        note(1, key);
        return l;
    }

    private int deliver(Load l, int value) {
        for (int a : l.waiting) {
            List<Parcel> box = w.boxes.get(a);
            box.add(new Parcel(l.key, value));
            w.led[8]++;
            w.of[a][2]++;
            if (box.size() > 12) {
                box.remove(0);
                w.led[9]++;
            }
        }
        w.running.remove(l);
        return l.waiting.size();
    }

    // ---- the calls

    int rule(int what, int v) {
        if (what < 0 || what > 7 || v < LEAST[what] || v > MOST[what]) {
            return BAD;
        }
        int was = w.rules[what];
        w.rules[what] = v;
        switch (what) {
            case 0 -> makePlace(v, null);
            case 1 -> w.inWindow = 0;
            case 4 -> run();
            case 6 -> trimCold();
            default -> { }
        }
        return was;
    }

    int step(int n) {
        if (n < 1 || n > 1000) {
            return BAD;
        }
        if (w.now + n > 99999) {
            return FULL;
        }
        w.now += n;
        if (w.rules[7] != 0) {
            for (Load l : new ArrayList<>(w.running)) {
                if (w.now - l.began >= w.rules[7]) {
                    note(13, l.key);
                    w.led[13]++;
                    fail(l, 99);
                }
            }
        }
        return w.now;
    }

    int feed(int letter) {
        if (letter != 32 && (letter < 97 || letter > 122)) {
            return BAD;
        }
        if (tape.length() == 60) {
            return FULL;
        }
        return tape.append((char) letter).length();
    }

    int ask(int a) {
        if (!asker(a)) {
            return BAD;
        }
        String key = word();
        if (key == null) {
            return NO_KEY;
        }
        w.uses++;
        w.inWindow++;
        w.led[0]++;
        w.of[a][0]++;
        keep(w.late, key, 60);
        for (int r = 0; r < 4; r++) {
            int p = place(key, r);
            w.sketch[r][p] = Math.min(15, w.sketch[r][p] + 1);
        }
        int answer = answer(a, key);
        if (w.inWindow == w.rules[1]) {
            w.inWindow = 0;
            w.entries.forEach(e -> e.count /= 2);
            for (int[] row : w.sketch) {
                for (int i = 0; i < 16; i++) {
                    row[i] /= 2;
                }
            }
            note(10, null);
            w.led[10]++;
        }
        return answer;
    }

    private int answer(int a, String key) {
        Load l = findLoad(w.running, key) != null ? findLoad(w.running, key) : findLoad(w.line, key);
        Entry e = find(w.entries, key);
        if (e != null && !stale(e)) {
            e.count = Math.min(999, e.count + 1);
            e.last = w.uses;
            w.led[1]++;
            w.of[a][1]++;
            note(0, key);
            if (due(e) && l == null) {
                putInLine(key);
                run();
            }
            return e.value;
        }
        if (e != null) {
            go(e, 8);
        }
        Entry c = find(w.cold, key);
        if (c != null) {
            w.cold.remove(c);
            if (!stale(c)) {
                note(12, key);
                w.led[12]++;
                if (may(key, c.weight)) {
                    letIn(key, c.value, c.weight, c.tags, c.since);
                    note(4, key);
                } else {
                    w.cold.add(c);
                    note(5, key);
                }
                return c.value;
            }
        }
        if (l == null) {
            putInLine(key).waiting.add(a);
            run();
        } else if (!l.waiting.contains(a)) {
            l.waiting.add(a);
            note(2, key);
            w.led[3]++;
        }
        return WAITS;
    }

    int giveUp(int a) {
        if (!asker(a)) {
            return BAD;
        }
        String key = word();
        if (key == null) {
            return NO_KEY;
        }
        Load running = findLoad(w.running, key);
        Load inLine = findLoad(w.line, key);
        if (running != null) {
            return running.waiting.remove((Integer) a) ? 1 : 0;
        }
        if (inLine == null || !inLine.waiting.remove((Integer) a)) {
            return 0;
        }
        if (inLine.waiting.isEmpty()) {
            w.line.remove(inLine);
        }
        return 1;
    }

    int take(int a) {
        if (!asker(a)) {
            return BAD;
        }
        if (w.boxes.get(a).isEmpty()) {
            return NOT;
        }
        w.of[a][3]++;
        return w.boxes.get(a).remove(0).value();
    }

    int first(int a, int i) {
        if (!asker(a) || i < -1) {
            return BAD;
        }
        return w.boxes.get(a).isEmpty() ? STATE : at(w.boxes.get(a).get(0).key(), i);
    }

    int box(int a, int what) {
        if (!asker(a) || what < 0 || what > 1) {
            return BAD;
        }
        return what == 0 ? w.boxes.get(a).size() : waits(a);
    }

    private int waits(int a) {
        int n = 0;
        for (List<Load> list : List.of(w.running, w.line)) {
            for (Load l : list) {
                n += l.waiting.contains(a) ? 1 : 0;
            }
        }
        return n;
    }

    int write(int value) {
        if (value < 0 || value > 99999) {
            return BAD;
        }
        String key = word();
        if (key == null) {
            return NO_KEY;
        }
        Entry e = find(w.entries, key);
        if (e == null || stale(e)) {
            written(key, value);
            return 0;
        }
        e.value = value;
        e.since = w.now;
        e.dirty = ++w.dirties;
        return 1;
    }

    int flush() {
        List<Entry> dirty = new ArrayList<>(w.entries);
        dirty.removeIf(e -> e.dirty == 0);
        dirty.sort(Comparator.comparingInt(e -> e.dirty));
        for (Entry e : dirty) {
            written(e.key, e.value);
            e.dirty = 0;
        }
        return dirty.size();
    }

    int writtenOf(int i, int what) {
        if (i < 0 || what < -2) {
            return BAD;
        }
        if (i >= w.written.size()) {
            return NOT;
        }
        Parcel p = w.written.get(i);
        return what == -1 ? p.value() : at(p.key(), what == -2 ? -1 : what);
    }

    int of(int a, int what) {
        return !asker(a) || what < 0 || what > 3 ? BAD : w.of[a][what];
    }

    int came(int value, int weight, int tags) {
        if (value < 0 || value > 99999 || weight < 1 || weight > 20 || tags < 0 || tags > 255) {
            return BAD;
        }
        String key = word();
        if (key == null) {
            return NO_KEY;
        }
        Load l = findLoad(w.running, key);
        if (l == null) {
            return STATE;
        }
        int n = deliver(l, value);
        w.led[4]++;
        w.cold.removeIf(c -> c.key.equals(key));
        Entry e = find(w.entries, key);
        boolean in = true;
        if (e != null && weight > w.rules[0]) {
            goForPlace(e, false);
            in = false;
        } else if (e != null) {
            e.value = e.dirty != 0 ? e.value : value;
            e.weight = weight;
            e.tags = tags;
            e.since = w.now;
            makePlace(w.rules[0], e);
        } else if (may(key, weight)) {
            letIn(key, value, weight, tags, w.now);
        } else {
            in = false;
        }
        note(in ? 4 : 5, key);
        w.led[6] += in ? 0 : 1;
        run();
        return n;
    }

    int failed(int code) {
        if (code < 1 || code > 99) {
            return BAD;
        }
        String key = word();
        if (key == null) {
            return NO_KEY;
        }
        Load l = findLoad(w.running, key);
        return l == null ? STATE : fail(l, code);
    }

    private int fail(Load l, int code) {
        int n = deliver(l, -code);
        note(6, l.key);
        w.led[5]++;
        run();
        return n;
    }

    int told(int i, int j) {
        if (i < -1 || j < -1) {
            return BAD;
        }
        return i == -1 ? w.told.size() : i < w.told.size() ? at(w.told.get(i), j) : NOT;
    }

    int load(int what) {
        if (what < 0) {
            return BAD;
        }
        String key = word();
        if (key == null) {
            return NO_KEY;
        }
        Load running = findLoad(w.running, key);
        Load any = running != null ? running : findLoad(w.line, key);
        if (what == 0) {
            return running != null ? 2 : any != null ? 1 : 0;
        }
        List<Integer> waiting = any == null ? List.of() : any.waiting;
        return what == 1 ? waiting.size() : what - 2 < waiting.size() ? waiting.get(what - 2) : NOT;
    }

    int entry(int what) {
        if (what < 0 || what > 9) {
            return BAD;
        }
        String key = word();
        if (key == null) {
            return NO_KEY;
        }
        Entry e = find(w.entries, key);
        if (e == null) {
            return NOT;
        }
        int[] all = {e.value, e.weight, e.tags, e.count, e.last, e.came, e.since, stale(e) ? 1 : 0, due(e) ? 1 : 0,
            e.dirty != 0 ? 1 : 0};
        return all[what];
    }

    int seen() {
        String key = word();
        return key == null ? NO_KEY : seenOf(key);
    }

    int sketch(int row, int place) {
        return row < 0 || row > 3 || place < 0 || place > 15 ? BAD : w.sketch[row][place];
    }

    private int dropWhere(Predicate<Entry> which, int kind) {
        int n = 0;
        for (Entry e : new ArrayList<>(w.entries)) {
            if (which.test(e)) {
                go(e, kind);
                n++;
            }
        }
        int before = w.cold.size();
        w.cold.removeIf(which);
        return n + before - w.cold.size();
    }

    int drop() {
        String key = word();
        return key == null ? NO_KEY : dropWhere(e -> e.key.equals(key), 9);
    }

    int dropTag(int tag) {
        return tag < 0 || tag > 7 ? BAD : dropWhere(e -> (e.tags & 1 << tag) != 0, 9);
    }

    int dropAll() {
        String key = word();
        return key == null ? NO_KEY : dropWhere(e -> e.key.startsWith(key), 9);
    }

    int tagged(int tag, int what) {
        if (tag < 0 || tag > 7 || what < 0 || what > 2) {
            return BAD;
        }
        return w.entries.stream().filter(e -> (e.tags & 1 << tag) != 0)
                .mapToInt(e -> what == 0 ? 1 : what == 1 ? e.weight : e.count).sum();
    }

    int sweep() {
        return dropWhere(this::stale, 8);
    }

    int toGo(int i, int j) {
        if (i < 0 || j < -2) {
            return BAD;
        }
        if (i >= w.entries.size()) {
            return NOT;
        }
        Entry e = order().get(i);
        return j == -2 ? e.count : at(e.key, j);
    }

    int would(int weight) {
        if (weight < 1 || weight > 20) {
            return BAD;
        }
        String key = word();
        if (key == null) {
            return NO_KEY;
        }
        Entry own = find(w.entries, key);
        if (own == null ? !may(key, weight) : weight > w.rules[0]) {
            return NOT;
        }
        List<Entry> others = order();
        others.remove(own);
        int n = 0;
        while (weightOf(others) + weight > w.rules[0]) {
            others.remove(0);
            n++;
        }
        return n;
    }

    int cold(int i, int j) {
        if (i < 0 || j < -3) {
            return BAD;
        }
        if (i >= w.cold.size()) {
            return NOT;
        }
        Entry c = w.cold.get(i);
        return j == -2 ? c.value : j == -3 ? c.since : at(c.key, j);
    }

    int follows(int what) {
        if (what < -2) {
            return BAD;
        }
        String key = word();
        if (key == null) {
            return NO_KEY;
        }
        Map<String, Integer> behind = new LinkedHashMap<>();
        for (int i = 0; i + 1 < w.late.size(); i++) {
            if (w.late.get(i).equals(key)) {
                behind.merge(w.late.get(i + 1), 1, Integer::sum);
            }
        }
        String best = null;
        for (String k : behind.keySet()) {
            if (best == null || behind.get(k) > behind.get(best)) {
                best = k;
            }
        }
        if (what == -1) {
            return best == null ? 0 : behind.get(best);
        }
        return best == null ? NOT : at(best, what == -2 ? -1 : what);
    }

    int replay(int rule, int n) {
        if (rule < 0 || rule > 3 || n < 1 || n > 12) {
            return BAD;
        }
        String all = tape.toString();
        tape.setLength(0);
        return all.matches("[a-z]{1,6}( [a-z]{1,6})*") ? hits(Arrays.asList(all.split(" ")), rule, n) : NO_KEY;
    }

    int replayed(int rule, int n) {
        return rule < 0 || rule > 3 || n < 1 || n > 12 ? BAD : hits(w.late, rule, n);
    }

    private int hits(List<String> keys, int rule, int n) {
        if (rule == 0 || rule == 2) {
            ArrayDeque<String> queue = new ArrayDeque<>();
            int hits = 0;
            for (String key : keys) {
                boolean in = queue.contains(key);
                hits += in ? 1 : 0;
                if (in && rule == 2) {
                    continue;
                }
                if (!queue.remove(key) && queue.size() == n) {
                    queue.removeFirst();
                }
                queue.addLast(key);
            }
            return hits;
        }
        Map<String, int[]> cache = new LinkedHashMap<>();
        int hits = 0;
        for (int i = 0; i < keys.size(); i++) {
            String key = keys.get(i);
            if (cache.containsKey(key)) {
                hits++;
                cache.get(key)[0]++;
                cache.get(key)[1] = i;
            } else {
                if (cache.size() == n) {
                    cache.remove(cache.keySet().stream().min(Comparator.<String>comparingInt(k -> cache.get(k)[0])
                            .thenComparingInt(k -> cache.get(k)[1])).orElseThrow());
                }
                cache.put(key, new int[] {1, i});
            }
            if (rule == 3 && (i + 1) % w.rules[1] == 0) {
                cache.values().forEach(c -> c[0] /= 2);
            }
        }
        return hits;
    }

    int text(int i, int j) {
        if (i < 0 || j < -1) {
            return BAD;
        }
        if (i >= w.entries.size()) {
            return NOT;
        }
        Entry e = order().get(i);
        return at(e.key + " " + e.value + " w" + e.weight + " c" + e.count + (e.dirty != 0 ? " dirty" : "")
                + (stale(e) ? " stale" : ""), j);
    }

    long book(int i, int what) {
        if (i < 0 || what < 0 || what > 2) {
            return BAD;
        }
        if (i >= w.book.size()) {
            return NOT;
        }
        Line line = w.book.get(i);
        return what == 0 ? line.kind() : what == 1 ? line.tick() : line.h();
    }

    long led(int what) {
        return what < 0 || what > 13 ? BAD : w.led[what];
    }

    int image() {
        kept = w.copy();
        return w.entries.size();
    }

    int back() {
        if (kept == null) {
            return STATE;
        }
        w = kept.copy();
        return w.entries.size();
    }

    int count(int what) {
        int askers = 0;
        for (int a = 0; a < 16; a++) {
            askers += waits(a) > 0 ? 1 : 0;
        }
        int[] all = {w.entries.size(), weightOf(w.entries), w.running.size(), w.line.size(), tape.length(), w.now,
            (int) w.entries.stream().filter(this::stale).count(), askers,
            (int) w.entries.stream().filter(e -> e.dirty != 0).count(), w.cold.size()};
        return what < 0 || what > 9 ? BAD : all[what];
    }
}
