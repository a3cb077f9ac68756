/**
 * A cache that counts how often each key is asked for, and lets the least often, least lately asked one go first.
 *
 * <p>This class is the face: it looks at the arguments, reads the key from the tape and puts the answers together.
 * What it keeps stands in {@link State}, twice: as it is now, and as the image that was kept last.
 */
public final class FrequencyShelf {
    public static final int BAD = -1001, NO_KEY = -1002, NOT = -1003, FULL = -1004, STATE = -1005, WAITS = -1006;

    private static final int MOST_ASKERS = 16;
    private static final int MOST_TAGS = 8;
    private static final int ALL_TAGS = 255;
    private static final int MOST_VALUE = 99999;
    private static final int MOST_WEIGHT = 20;
    private static final int MOST_CODE = 99;
    private static final int MOST_TICKS_A_STEP = 1000;
    private static final int MOST_PLACES = 12;
    /** Stands where there is no key: a packed key is above 0. */
    private static final int NONE = 0;
    /** Stands where there is no row. */
    private static final int NOWHERE = -1;

    private final Tape tape;
    private final Table rowOfKeys;
    private final Replays replays;
    private final State at;
    private final Rules rules;
    private final Ledger ledger;
    private final Shelf shelf;
    private final Loads loads;
    /** The image that was kept last, or null. */
    private State kept;

    public FrequencyShelf() {
        tape = new Tape();
        rowOfKeys = new Table(Tape.MOST_KEYS, 1);
        replays = new Replays();
        at = new State();
        rules = at.rules;
        ledger = at.ledger;
        shelf = at.shelf;
        loads = at.loads;
        kept = null;
    }

    // ---- rules, time

    public int rule(int what, int v) {
        if (!Rules.allow(what, v)) {
            return BAD;
        }
        int before = rules.value(what);
        rules.set(what, v);
        if (what == Rules.ROOM) {
            shelf.fitInto(v);
        } else if (what == Rules.WINDOW) {
            shelf.beginWindow();
        } else if (what == Rules.LOADERS) {
            loads.runWhatMay();
        } else if (what == Rules.COLD) {
            shelf.trimCold();
        }
        return before;
    }

    public int step(int n) {
        if (n < 1 || n > MOST_TICKS_A_STEP) {
            return BAD;
        }
        if (rules.now() + n > Rules.LAST_TICK) {
            return FULL;
        }
        rules.pass(n);
        loads.endLeases();
        return rules.now();
    }

    public int feed(int letter) {
        if (!Key.isLetter(letter) && letter != Tape.BLANK) {
            return BAD;
        }
        return tape.add(letter) ? tape.size() : FULL;
    }

    // ---- asking

    public int ask(int asker) {
        if (!isAsker(asker)) {
            return BAD;
        }
        int key = tape.takeKey();
        if (key == NONE) {
            return NO_KEY;
        }
        ledger.noteUse(asker, key);
        shelf.beginUse(key);
        int answer = WAITS;
        if (shelf.entries.has(key)) {
            answer = hit(asker, key);
        } else if (shelf.cold.has(key)) {
            answer = shelf.warm(key);
        } else {
            loads.waitFor(asker, key);
        }
        shelf.endUse();
        return answer;
    }

    private int hit(int asker, int key) {
        int row = shelf.hit(key);
        ledger.noteHit(asker, key);
        if (shelf.entries.isDue(row) && loads.rowOf(key) == NOWHERE) {
            loads.lineUp(key);
        }
        return shelf.entries.get(row, Entries.VALUE);
    }

    public int giveUp(int asker) {
        if (!isAsker(asker)) {
            return BAD;
        }
        int key = tape.takeKey();
        if (key == NONE) {
            return NO_KEY;
        }
        return loads.waitNoMore(asker, key) ? 1 : 0;
    }

    public int take(int asker) {
        if (!isAsker(asker)) {
            return BAD;
        }
        int row = loads.firstDelivery(asker);
        if (row == NOWHERE) {
            return NOT;
        }
        int value = loads.boxes.get(row, Loads.BOX_VALUE);
        loads.boxes.remove(row);
        ledger.tallyOf(asker, Ledger.ASKER_TAKEN);
        return value;
    }

    public int first(int asker, int i) {
        if (!isAsker(asker) || i < -1) {
            return BAD;
        }
        int row = loads.firstDelivery(asker);
        if (row == NOWHERE) {
            return STATE;
        }
        return lengthOrByte(loads.boxes.get(row, Loads.BOX_KEY), i);
    }

    public int box(int asker, int what) {
        if (!isAsker(asker) || what < 0 || what > 1) {
            return BAD;
        }
        return what == 0
                ? loads.boxes.howMany(Loads.BOX_ASKER, asker)
                : loads.waits.howMany(Loads.WAIT_ASKER, asker);
    }

    public int write(int value) {
        if (!isValue(value)) {
            return BAD;
        }
        int key = tape.takeKey();
        if (key == NONE) {
            return NO_KEY;
        }
        return shelf.overwrite(key, value) ? 1 : 0;
    }

    public int flush() {
        return shelf.writeOutDirty();
    }

    public int writtenOf(int i, int what) {
        if (i < 0 || what < -2) {
            return BAD;
        }
        if (i >= ledger.written.size()) {
            return NOT;
        }
        if (what == -1) {
            return ledger.written.get(i, Ledger.WRITTEN_VALUE);
        }
        int key = ledger.written.get(i, Ledger.WRITTEN_KEY);
        return what == -2 ? Key.length(key) : Key.byteAt(key, what);
    }

    public int of(int asker, int what) {
        if (!isAsker(asker) || what < 0 || what >= Ledger.ASKER_SUMS) {
            return BAD;
        }
        return ledger.sumOf(asker, what);
    }

    // ---- loads

    public int came(int value, int weight, int tags) {
        if (!isValue(value) || !isWeight(weight) || tags < 0 || tags > ALL_TAGS) {
            return BAD;
        }
        int key = tape.takeKey();
        if (key == NONE) {
            return NO_KEY;
        }
        if (!loads.runs(key)) {
            return STATE;
        }
        int delivered = loads.end(key, value);
        shelf.settle(key, value, weight, tags);
        loads.runWhatMay();
        return delivered;
    }

    public int failed(int code) {
        if (code < 1 || code > MOST_CODE) {
            return BAD;
        }
        int key = tape.takeKey();
        if (key == NONE) {
            return NO_KEY;
        }
        return loads.runs(key) ? loads.fail(key, code) : STATE;
    }

    public int told(int i, int j) {
        if (i < -1 || j < -1) {
            return BAD;
        }
        if (i == -1) {
            return ledger.told.size();
        }
        return i < ledger.told.size() ? lengthOrByte(ledger.told.get(i, 0), j) : NOT;
    }

    public int load(int what) {
        if (what < 0) {
            return BAD;
        }
        int key = tape.takeKey();
        if (key == NONE) {
            return NO_KEY;
        }
        if (what == 0) {
            return loads.rowOf(key) == NOWHERE ? 0 : loads.runs(key) ? 2 : 1;
        }
        if (what == 1) {
            return loads.waits.howMany(Loads.WAIT_KEY, key);
        }
        int row = loads.waits.find(Loads.WAIT_KEY, key, what - 2);
        return row == NOWHERE ? NOT : loads.waits.get(row, Loads.WAIT_ASKER);
    }

    // ---- entries

    public int entry(int what) {
        if (what < 0 || what > 9) {
            return BAD;
        }
        int key = tape.takeKey();
        if (key == NONE) {
            return NO_KEY;
        }
        int row = shelf.entries.rowOf(key);
        if (row == NOWHERE) {
            return NOT;
        }
        switch (what) {
            case 7:
                return oneIf(shelf.entries.isStale(row));
            case 8:
                return oneIf(shelf.entries.isDue(row));
            case 9:
                return oneIf(shelf.entries.isDirty(row));
            default:
                return shelf.entries.get(row, what);
        }
    }

    public int seen() {
        int key = tape.takeKey();
        return key == NONE ? NO_KEY : shelf.sketch.least(key);
    }

    public int sketch(int row, int place) {
        if (row < 0 || row >= Sketch.ROWS || place < 0 || place >= Sketch.PLACES) {
            return BAD;
        }
        return shelf.sketch.get(row, place);
    }

    public int drop() {
        int key = tape.takeKey();
        return key == NONE ? NO_KEY : shelf.letAllGo(Entries.BY_KEY, key);
    }

    public int dropTag(int tag) {
        return isTag(tag) ? shelf.letAllGo(Entries.BY_TAG, tag) : BAD;
    }

    public int dropAll() {
        int start = tape.takeKey();
        return start == NONE ? NO_KEY : shelf.letAllGo(Entries.BY_START, start);
    }

    public int tagged(int tag, int what) {
        if (!isTag(tag) || what < 0 || what > 2) {
            return BAD;
        }
        if (what == 0) {
            return shelf.entries.howMany(Entries.BY_TAG, tag);
        }
        return shelf.entries.sum(what == 1 ? Entries.WEIGHT : Entries.COUNT, Entries.BY_TAG, tag);
    }

    public int sweep() {
        return shelf.letAllGo(Entries.BY_STALE, NONE);
    }

    public int toGo(int i, int j) {
        if (i < 0 || j < -2) {
            return BAD;
        }
        int row = shelf.entries.nthToGo(i);
        if (row == NOWHERE) {
            return NOT;
        }
        return j == -2
                ? shelf.entries.get(row, Entries.COUNT)
                : lengthOrByte(shelf.entries.get(row, Entries.KEY), j);
    }

    public int would(int weight) {
        if (!isWeight(weight)) {
            return BAD;
        }
        int key = tape.takeKey();
        return key == NONE ? NO_KEY : shelf.wouldGoFor(key, weight);
    }

    public int cold(int i, int j) {
        if (i < 0 || j < -3) {
            return BAD;
        }
        if (i >= shelf.cold.size()) {
            return NOT;
        }
        if (j == -2) {
            return shelf.cold.get(i, Entries.VALUE);
        }
        if (j == -3) {
            return shelf.cold.get(i, Entries.SINCE);
        }
        return lengthOrByte(shelf.cold.get(i, Entries.KEY), j);
    }

    public int follows(int what) {
        if (what < -2) {
            return BAD;
        }
        int key = tape.takeKey();
        if (key == NONE) {
            return NO_KEY;
        }
        int follower = ledger.followerOf(key);
        if (what == -1) {
            return follower == NONE ? 0 : ledger.timesBehind(key, follower);
        }
        if (follower == NONE) {
            return NOT;
        }
        return what == -2 ? Key.length(follower) : Key.byteAt(follower, what);
    }

    // ---- other rules

    public int replay(int rule, int n) {
        if (!isReplay(rule, n)) {
            return BAD;
        }
        return tape.takeKeys(rowOfKeys) ? replays.hits(rowOfKeys, rule, n, rules.value(Rules.WINDOW)) : NO_KEY;
    }

    public int replayed(int rule, int n) {
        return isReplay(rule, n) ? replays.hits(ledger.late, rule, n, rules.value(Rules.WINDOW)) : BAD;
    }

    public int text(int i, int j) {
        if (i < 0 || j < -1) {
            return BAD;
        }
        int row = shelf.entries.nthToGo(i);
        if (row == NOWHERE) {
            return NOT;
        }
        StringBuilder line = new StringBuilder();
        shelf.entries.describe(row, line);
        if (j == -1) {
            return line.length();
        }
        return j < line.length() ? line.charAt(j) : NOT;
    }

    // ---- what came to pass

    public long book(int i, int what) {
        if (i < 0 || what < 0 || what >= Ledger.BOOK_WIDTH) {
            return BAD;
        }
        return i < ledger.book.size() ? ledger.book.get(i, what) : NOT;
    }

    public long led(int what) {
        return what < 0 || what >= Ledger.SUMS ? BAD : ledger.sum(what);
    }

    public int image() {
        if (kept == null) {
            kept = new State();
        }
        kept.copyFrom(at);
        return shelf.entries.size();
    }

    public int back() {
        if (kept == null) {
            return STATE;
        }
        at.copyFrom(kept);
        return shelf.entries.size();
    }

    public int count(int what) {
        switch (what) {
            case 0:
                return shelf.entries.size();
            case 1:
                return shelf.entries.weight();
            case 2:
                return loads.running();
            case 3:
                return loads.inLine();
            case 4:
                return tape.size();
            case 5:
                return rules.now();
            case 6:
                return shelf.entries.howMany(Entries.BY_STALE, NONE);
            case 7:
                return loads.waitingAskers();
            case 8:
                return shelf.entries.howMany(Entries.BY_DIRTY, NONE);
            case 9:
                return shelf.cold.size();
            default:
                return BAD;
        }
    }

    private static boolean isAsker(int asker) {
        return asker >= 0 && asker < MOST_ASKERS;
    }

    private static boolean isTag(int tag) {
        return tag >= 0 && tag < MOST_TAGS;
    }

    private static boolean isValue(int value) {
        return value >= 0 && value <= MOST_VALUE;
    }

    private static boolean isWeight(int weight) {
        return weight >= 1 && weight <= MOST_WEIGHT;
    }

    private static boolean isReplay(int rule, int n) {
        return rule >= Replays.LRU && rule <= Replays.AGED && n >= 1 && n <= MOST_PLACES;
    }

    private static int oneIf(boolean so) {
        return so ? 1 : 0;
    }

    private static int lengthOrByte(int key, int j) {
        return j == -1 ? Key.length(key) : Key.byteAt(key, j);
    }

    private static void copyNumbers(int[] from, int[] to, int n) {
        if (n > 0 && n <= from.length && n <= to.length) {
            System.arraycopy(from, 0, to, 0, n);
        }
    }

    /** Keys are packed into an int, five bits a letter (a is 1), so that rows of numbers can hold them. */
    private static final class Key {
        static final int MOST_LETTERS = 6;
        private static final int BITS = 5;
        private static final int MASK = 31;
        private static final int BELOW_A = 'a' - 1;

        static boolean isLetter(int letter) {
            return letter >= 'a' && letter <= 'z';
        }

        static int with(int key, int letter) {
            return (key << BITS) | ((letter - BELOW_A) & MASK);
        }

        static int length(int key) {
            int letters = 0;
            for (int rest = key; rest > 0 && letters < MOST_LETTERS; rest >>= BITS) {
                letters++;
            }
            return letters;
        }

        static int byteAt(int key, int i) {
            int letters = length(key);
            return i < 0 || i >= letters ? NOT : ((key >> (BITS * (letters - 1 - i))) & MASK) + BELOW_A;
        }

        static boolean beginsWith(int key, int start) {
            int more = length(key) - length(start);
            return more >= 0 && key >> (BITS * more) == start;
        }

        /** The document's h; 0 where there is no key. */
        static int number(int key) {
            if (key == NONE) {
                return 0;
            }
            int h = 7;
            for (int shift = BITS * (MOST_LETTERS - 1); shift >= 0; shift -= BITS) {
                int letter = (key >> shift) & MASK;
                if (letter != 0) {
                    h = h * 31 + letter + BELOW_A;
                }
            }
            return h;
        }
    }

    /** Rows of numbers, the oldest first. Where there is no place for one more, the oldest goes. */
    private static final class Table {
        private final int most;
        private final int width;
        private final int[] cells;
        private int size;

        Table(int most, int width) {
            this.most = Math.max(1, most);
            this.width = Math.max(1, width);
            cells = new int[this.most * this.width];
            size = 0;
        }

        int size() {
            return size;
        }

        void clear() {
            size = 0;
        }

        int get(int row, int column) {
            int place = row * width + column;
            boolean there = row >= 0 && row < size && column >= 0 && column < width;
            return there && place >= 0 && place < cells.length ? cells[place] : 0;
        }

        void set(int row, int column, int value) {
            int place = row * width + column;
            boolean there = row >= 0 && row < size && column >= 0 && column < width;
            if (there && place >= 0 && place < cells.length) {
                cells[place] = value;
            }
        }

        /** Adds a row that begins with these three (as far as it is wide) and goes on with zeros: which one it is. */
        int push(int a, int b, int c) {
            if (size >= most) {
                for (int place = 0; place + width < cells.length; place++) {
                    cells[place] = cells[place + width];
                }
                size = most - 1;
            }
            int start = size * width;
            for (int column = 0; column < width && start + column < cells.length; column++) {
                cells[start + column] = column == 0 ? a : column == 1 ? b : column == 2 ? c : 0;
            }
            size++;
            return size - 1;
        }

        void remove(int row) {
            if (row < 0 || row >= size) {
                return;
            }
            for (int place = row * width; place + width < size * width && place + width < cells.length; place++) {
                cells[place] = cells[place + width];
            }
            size--;
        }

        void removeAll(int column, int value) {
            for (int row = size - 1; row >= 0; row--) {
                if (get(row, column) == value) {
                    remove(row);
                }
            }
        }

        /** The n-th row (from 0) that has this value in this column, or NOWHERE. */
        int find(int column, int value, int n) {
            int ahead = 0;
            for (int row = 0; row < size; row++) {
                if (get(row, column) != value) {
                    continue;
                }
                if (ahead == n) {
                    return row;
                }
                ahead++;
            }
            return NOWHERE;
        }

        int howMany(int column, int value) {
            int found = 0;
            for (int row = 0; row < size; row++) {
                if (get(row, column) == value) {
                    found++;
                }
            }
            return found;
        }

        void copyFrom(Table other) {
            size = Math.min(other.size, most);
            copyNumbers(other.cells, cells, size * width);
        }
    }

    /** What was fed and not yet read. Reading it empties it, whatever stands on it. */
    private static final class Tape {
        static final int MOST_BYTES = 60;
        /** Keys of one letter, and a blank between each two. */
        static final int MOST_KEYS = 30;
        static final int BLANK = ' ';

        private final int[] bytes;
        private int size;

        Tape() {
            bytes = new int[MOST_BYTES];
            size = 0;
        }

        int size() {
            return size;
        }

        boolean add(int letter) {
            if (size < 0 || size >= bytes.length) {
                return false;
            }
            bytes[size] = letter;
            size++;
            return true;
        }

        /** The key that the tape is as a whole, or NONE. */
        int takeKey() {
            int letters = size;
            size = 0;
            if (letters > Key.MOST_LETTERS) {
                return NONE;
            }
            int key = NONE;
            for (int i = 0; i < letters && i < bytes.length; i++) {
                if (bytes[i] == BLANK) {
                    return NONE;
                }
                key = Key.with(key, bytes[i]);
            }
            return key;
        }

        /** Puts the keys that stand on the tape, parted by single blanks, into a row: whether it was such a row. */
        boolean takeKeys(Table row) {
            int end = size;
            size = 0;
            row.clear();
            int key = NONE;
            for (int i = 0; i < end && i < bytes.length; i++) {
                if (bytes[i] != BLANK) {
                    if (Key.length(key) >= Key.MOST_LETTERS) {
                        return false;
                    }
                    key = Key.with(key, bytes[i]);
                } else if (key == NONE) {
                    return false;
                } else {
                    row.push(key, 0, 0);
                    key = NONE;
                }
            }
            row.push(key, 0, 0);
            return key != NONE;
        }
    }

    /** The rules that can be told, and the time that some of them speak of. */
    private static final class Rules {
        static final int ROOM = 0, WINDOW = 1, EXPIRES = 2, AHEAD = 3, LOADERS = 4, WARY = 5, COLD = 6, LEASE = 7;
        static final int LAST_TICK = 99999;
        private static final int[] LEAST = {1, 1, 0, 0, 1, 0, 0, 0};
        private static final int[] MOST = {200, 500, 999, 999, 8, 1, 20, 999};

        private final int[] values;
        private int now;

        Rules() {
            values = new int[] {20, 16, 0, 0, 2, 0, 0, 0};
            now = 0;
        }

        static boolean allow(int what, int v) {
            return what >= 0 && what < LEAST.length && what < MOST.length && v >= LEAST[what] && v <= MOST[what];
        }

        int value(int what) {
            return what >= 0 && what < values.length ? values[what] : 0;
        }

        void set(int what, int v) {
            if (what >= 0 && what < values.length) {
                values[what] = v;
            }
        }

        int now() {
            return now;
        }

        void pass(int ticks) {
            now += ticks;
        }

        /** Whether as many ticks as a rule tells have passed since one; never, if it tells 0. */
        boolean hasPassed(int what, int since) {
            int ticks = what >= 0 && what < values.length ? values[what] : 0;
            return ticks != 0 && now >= since + ticks;
        }

        void copyFrom(Rules other) {
            copyNumbers(other.values, values, values.length);
            now = other.now;
        }
    }

    /** About how often each key was asked for of late: never too few, too many where keys share their places. */
    private static final class Sketch {
        static final int ROWS = 4;
        static final int PLACES = 16;
        private static final int MOST_COUNT = 15;

        private final int[] counts;

        Sketch() {
            counts = new int[ROWS * PLACES];
        }

        private static int placeOf(int h, int row) {
            return row * PLACES + ((h * (2 * row + 1)) >>> (3 + 5 * row)) % PLACES;
        }

        void add(int key) {
            int h = Key.number(key);
            for (int row = 0; row < ROWS; row++) {
                int place = placeOf(h, row);
                if (place >= 0 && place < counts.length && counts[place] < MOST_COUNT) {
                    counts[place]++;
                }
            }
        }

        int least(int key) {
            int h = Key.number(key);
            int least = MOST_COUNT;
            for (int row = 0; row < ROWS; row++) {
                int place = placeOf(h, row);
                if (place >= 0 && place < counts.length && counts[place] < least) {
                    least = counts[place];
                }
            }
            return least;
        }

        int get(int row, int column) {
            int place = row * PLACES + column;
            return place >= 0 && place < counts.length ? counts[place] : 0;
        }

        void halve() {
            for (int place = 0; place < counts.length; place++) {
                counts[place] /= 2;
            }
        }

        void copyFrom(Sketch other) {
            copyNumbers(other.counts, counts, counts.length);
        }
    }

    /** Entries in the order in which they came, and which of them goes first; the cold shelf is held alike. */
    private static final class Entries {
        /** The first seven stand as entry() numbers them. */
        static final int VALUE = 0, WEIGHT = 1, TAGS = 2, COUNT = 3, LAST = 4, CAME = 5, SINCE = 6, KEY = 7, DIRTY = 8;
        /** By what entries are picked: a key, a tag, how a key starts, that they are stale, that they are dirty. */
        static final int BY_KEY = 0, BY_TAG = 1, BY_START = 2, BY_STALE = 3, BY_DIRTY = 4;
        private static final int WIDTH = 9;
        private static final int MOST_COUNT = 999;

        private final Rules rules;
        private final Table rows;

        Entries(int most, Rules rules) {
            this.rules = rules;
            rows = new Table(most, WIDTH);
        }

        int size() {
            return rows.size();
        }

        int get(int row, int column) {
            return rows.get(row, column);
        }

        void set(int row, int column, int value) {
            rows.set(row, column, value);
        }

        int rowOf(int key) {
            return rows.find(KEY, key, 0);
        }

        boolean has(int key) {
            return rowOf(key) != NOWHERE;
        }

        int add(int key, int value, int weight, int tags, int since) {
            int row = rows.push(value, weight, tags);
            rows.set(row, KEY, key);
            rows.set(row, SINCE, since);
            return row;
        }

        void remove(int row) {
            rows.remove(row);
        }

        boolean isStale(int row) {
            return rules.hasPassed(Rules.EXPIRES, rows.get(row, SINCE));
        }

        boolean isDue(int row) {
            return !isStale(row) && rules.hasPassed(Rules.AHEAD, rows.get(row, SINCE));
        }

        boolean isDirty(int row) {
            return rows.get(row, DIRTY) != 0;
        }

        void countUse(int row, int use) {
            rows.set(row, COUNT, Math.min(MOST_COUNT, rows.get(row, COUNT) + 1));
            rows.set(row, LAST, use);
        }

        void halveCounts() {
            for (int row = 0; row < rows.size(); row++) {
                rows.set(row, COUNT, rows.get(row, COUNT) / 2);
            }
        }

        boolean isPicked(int row, int by, int what) {
            switch (by) {
                case BY_KEY:
                    return rows.get(row, KEY) == what;
                case BY_TAG:
                    return (rows.get(row, TAGS) >> what & 1) != 0;
                case BY_START:
                    return Key.beginsWith(rows.get(row, KEY), what);
                case BY_STALE:
                    return isStale(row);
                default:
                    return isDirty(row);
            }
        }

        int howMany(int by, int what) {
            int picked = 0;
            for (int row = 0; row < rows.size(); row++) {
                if (isPicked(row, by, what)) {
                    picked++;
                }
            }
            return picked;
        }

        int sum(int column, int by, int what) {
            int sum = 0;
            for (int row = 0; row < rows.size(); row++) {
                if (isPicked(row, by, what)) {
                    sum += rows.get(row, column);
                }
            }
            return sum;
        }

        int weight() {
            int sum = 0;
            for (int row = 0; row < rows.size(); row++) {
                sum += rows.get(row, WEIGHT);
            }
            return sum;
        }

        private boolean goesAhead(int row, int other) {
            boolean stale = isStale(row);
            if (stale != isStale(other)) {
                return stale;
            }
            for (int column = COUNT; column <= CAME; column++) {
                int mine = rows.get(row, column);
                int its = rows.get(other, column);
                if (mine != its) {
                    return mine < its;
                }
            }
            return false;
        }

        /** The first to go of those that go behind a row (of all, if that is NOWHERE), but for the spared key's. */
        int nextToGo(int behind, int spared) {
            int next = NOWHERE;
            for (int row = 0; row < rows.size(); row++) {
                if (rows.get(row, KEY) == spared || behind != NOWHERE && !goesAhead(behind, row)) {
                    continue;
                }
                if (next == NOWHERE || goesAhead(row, next)) {
                    next = row;
                }
            }
            return next;
        }

        int nthToGo(int n) {
            if (n < 0 || n >= rows.size()) {
                return NOWHERE;
            }
            int row = nextToGo(NOWHERE, NONE);
            for (int i = 0; i < n; i++) {
                row = nextToGo(row, NONE);
            }
            return row;
        }

        /** The dirty entry that became so the longest ago, or NOWHERE. */
        int firstDirty() {
            int oldest = NOWHERE;
            for (int row = 0; row < rows.size(); row++) {
                if (isDirty(row) && (oldest == NOWHERE || rows.get(row, DIRTY) < rows.get(oldest, DIRTY))) {
                    oldest = row;
                }
            }
            return oldest;
        }

        void describe(int row, StringBuilder line) {
            int key = rows.get(row, KEY);
            for (int i = 0; i < Key.length(key); i++) {
                line.append((char) Key.byteAt(key, i));
            }
            line.append(' ').append(rows.get(row, VALUE));
            line.append(" w").append(rows.get(row, WEIGHT));
            line.append(" c").append(rows.get(row, COUNT));
            if (isDirty(row)) {
                line.append(" dirty");
            }
            if (isStale(row)) {
                line.append(" stale");
            }
        }

        void copyFrom(Entries other) {
            rows.copyFrom(other.rows);
        }
    }

    /** What came to pass: the book, the sums, and the latest keys told, written and asked for. */
    private static final class Ledger {
        /** What the book tells of. */
        static final int HIT = 0, LINED_UP = 1, JOINED = 2, TOLD = 3, LET_IN = 4, NOT_LET_IN = 5, FAILED = 6,
                WENT_FOR_PLACE = 7, WENT_STALE = 8, DROPPED = 9, HALVED = 10, WRITTEN = 11, WARMED = 12,
                LEASE_ENDED = 13;
        static final int BOOK_WIDTH = 3;
        static final int WRITTEN_KEY = 0, WRITTEN_VALUE = 1;
        /** Sums that do not go with a line of the book; the others are named in SUM_OF. */
        static final int SUM_USES = 0, SUM_CAME = 4, SUM_NOT_LET_IN = 6, SUM_DELIVERED = 8, SUM_LOST = 9;
        static final int SUMS = 14;
        static final int ASKER_USES = 0, ASKER_HITS = 1, ASKER_DELIVERED = 2, ASKER_TAKEN = 3;
        static final int ASKER_SUMS = 4;
        /** The sum that grows with each line of the book; -1 where none does, or not always. */
        private static final int[] SUM_OF = {1, -1, 3, 2, -1, -1, 5, 7, -1, -1, 10, 11, 12, 13};

        private final Rules rules;
        private final Table book;
        private final Table told;
        private final Table written;
        private final Table late;
        private final int[] sums;
        private final int[] askerSums;

        Ledger(Rules rules) {
            this.rules = rules;
            book = new Table(40, BOOK_WIDTH);
            told = new Table(60, 1);
            written = new Table(40, 2);
            late = new Table(60, 1);
            sums = new int[SUMS];
            askerSums = new int[MOST_ASKERS * ASKER_SUMS];
        }

        void note(int kind, int key) {
            book.push(kind, rules.now(), Key.number(key));
            if (kind >= 0 && kind < SUM_OF.length) {
                tally(SUM_OF[kind]);
            }
        }

        void tally(int what) {
            if (what >= 0 && what < sums.length) {
                sums[what]++;
            }
        }

        void tallyOf(int asker, int what) {
            int place = asker * ASKER_SUMS + what;
            if (place >= 0 && place < askerSums.length) {
                askerSums[place]++;
            }
        }

        int sum(int what) {
            return what >= 0 && what < sums.length ? sums[what] : 0;
        }

        int sumOf(int asker, int what) {
            int place = asker * ASKER_SUMS + what;
            return place >= 0 && place < askerSums.length ? askerSums[place] : 0;
        }

        void noteUse(int asker, int key) {
            late.push(key, 0, 0);
            tally(SUM_USES);
            tallyOf(asker, ASKER_USES);
        }

        void noteHit(int asker, int key) {
            note(HIT, key);
            tallyOf(asker, ASKER_HITS);
        }

        void noteTold(int key) {
            told.push(key, 0, 0);
            note(TOLD, key);
        }

        void noteWritten(int key, int value) {
            written.push(key, value, 0);
            note(WRITTEN, key);
        }

        void noteDelivered(int asker) {
            tally(SUM_DELIVERED);
            tallyOf(asker, ASKER_DELIVERED);
        }

        int timesBehind(int key, int follower) {
            int times = 0;
            for (int i = 1; i < late.size(); i++) {
                if (late.get(i - 1, 0) == key && late.get(i, 0) == follower) {
                    times++;
                }
            }
            return times;
        }

        /** The key that came right behind this one most often, of like ones the first to do so; or NONE. */
        int followerOf(int key) {
            int best = NONE;
            int most = 0;
            for (int i = 1; i < late.size(); i++) {
                if (late.get(i - 1, 0) != key) {
                    continue;
                }
                int times = timesBehind(key, late.get(i, 0));
                if (times > most) {
                    most = times;
                    best = late.get(i, 0);
                }
            }
            return best;
        }

        void copyFrom(Ledger other) {
            book.copyFrom(other.book);
            told.copyFrom(other.told);
            written.copyFrom(other.written);
            late.copyFrom(other.late);
            copyNumbers(other.sums, sums, sums.length);
            copyNumbers(other.askerSums, askerSums, askerSums.length);
        }
    }

    /** The entries, the cold shelf and the sketch: who is let in, who goes, who is warmed. */
    private static final class Shelf {
        /** Each weighs 1 at least, and the room is 200 at most. */
        private static final int MOST_ENTRIES = 200;
        private static final int MOST_COLD = 20;

        private final Rules rules;
        private final Ledger ledger;
        private final Entries entries;
        private final Entries cold;
        private final Sketch sketch;
        private int uses;
        private int usesInWindow;
        private int entriesSoFar;
        private int dirtySoFar;

        Shelf(Rules rules, Ledger ledger) {
            this.rules = rules;
            this.ledger = ledger;
            entries = new Entries(MOST_ENTRIES, rules);
            cold = new Entries(MOST_COLD, rules);
            sketch = new Sketch();
            uses = 0;
            usesInWindow = 0;
            entriesSoFar = 0;
            dirtySoFar = 0;
        }

        void beginWindow() {
            usesInWindow = 0;
        }

        /** Counts a use of a key; what is stale of it goes, so that what is still there can answer. */
        void beginUse(int key) {
            uses++;
            usesInWindow++;
            sketch.add(key);
            int row = entries.rowOf(key);
            if (row != NOWHERE && entries.isStale(row)) {
                letGo(row, Ledger.WENT_STALE);
            }
            int coldRow = cold.rowOf(key);
            if (coldRow != NOWHERE && cold.isStale(coldRow)) {
                cold.remove(coldRow);
            }
        }

        void endUse() {
            if (usesInWindow < rules.value(Rules.WINDOW)) {
                return;
            }
            usesInWindow = 0;
            entries.halveCounts();
            sketch.halve();
            ledger.note(Ledger.HALVED, NONE);
        }

        /** Counts the use for the entry of a key: its row. */
        int hit(int key) {
            int row = entries.rowOf(key);
            entries.countUse(row, uses);
            return row;
        }

        /** The cold one of a key comes back as an entry, if it may: its value. */
        int warm(int key) {
            int row = cold.rowOf(key);
            int value = cold.get(row, Entries.VALUE);
            int weight = cold.get(row, Entries.WEIGHT);
            int tags = cold.get(row, Entries.TAGS);
            int since = cold.get(row, Entries.SINCE);
            cold.remove(row);
            ledger.note(Ledger.WARMED, key);
            boolean isIn = letIn(key, value, weight, tags, since);
            if (!isIn) {
                cold.add(key, value, weight, tags, since);
            }
            ledger.note(isIn ? Ledger.LET_IN : Ledger.NOT_LET_IN, key);
            return value;
        }

        /** What a load brought becomes an entry, or makes the one that is there new, if it may. */
        void settle(int key, int value, int weight, int tags) {
            cold.remove(cold.rowOf(key));
            boolean isIn = entries.has(key)
                    ? renew(key, value, weight, tags)
                    : letIn(key, value, weight, tags, rules.now());
            ledger.tally(Ledger.SUM_CAME);
            if (!isIn) {
                ledger.tally(Ledger.SUM_NOT_LET_IN);
            }
            ledger.note(isIn ? Ledger.LET_IN : Ledger.NOT_LET_IN, key);
        }

        private boolean renew(int key, int value, int weight, int tags) {
            int row = entries.rowOf(key);
            if (weight > rules.value(Rules.ROOM)) {
                letGo(row, Ledger.WENT_FOR_PLACE);
                return false;
            }
            // What was written is newer than what the load found.
            if (!entries.isDirty(row)) {
                entries.set(row, Entries.VALUE, value);
            }
            entries.set(row, Entries.WEIGHT, weight);
            entries.set(row, Entries.TAGS, tags);
            entries.set(row, Entries.SINCE, rules.now());
            makePlace(rules.value(Rules.ROOM), key);
            return true;
        }

        private boolean letIn(int key, int value, int weight, int tags, int since) {
            if (!mayComeIn(key, weight)) {
                return false;
            }
            makePlace(rules.value(Rules.ROOM) - weight, NONE);
            int row = entries.add(key, value, weight, tags, since);
            entriesSoFar++;
            entries.set(row, Entries.COUNT, sketch.least(key));
            entries.set(row, Entries.LAST, uses);
            entries.set(row, Entries.CAME, entriesSoFar);
            return true;
        }

        /** Whether a key that has no entry would be let in with a weight. */
        private boolean mayComeIn(int key, int weight) {
            int room = rules.value(Rules.ROOM);
            if (weight > room) {
                return false;
            }
            if (rules.value(Rules.WARY) == 0 || entries.weight() + weight <= room) {
                return true;
            }
            int row = entries.nextToGo(NOWHERE, NONE);
            return entries.isStale(row) || entries.get(row, Entries.COUNT) < sketch.least(key);
        }

        void fitInto(int room) {
            makePlace(room, NONE);
        }

        /** Entries go, the first to go first, till those that stay weigh no more than this; the spared key's never. */
        private void makePlace(int weight, int spared) {
            for (int left = entries.size(); left > 0 && entries.weight() > weight; left--) {
                int row = entries.nextToGo(NOWHERE, spared);
                if (row == NOWHERE) {
                    return;
                }
                if (!entries.isStale(row)) {
                    putOnCold(row);
                }
                letGo(row, Ledger.WENT_FOR_PLACE);
            }
        }

        private void putOnCold(int row) {
            int key = entries.get(row, Entries.KEY);
            int value = entries.get(row, Entries.VALUE);
            int weight = entries.get(row, Entries.WEIGHT);
            int tags = entries.get(row, Entries.TAGS);
            cold.add(key, value, weight, tags, entries.get(row, Entries.SINCE));
            trimCold();
        }

        void trimCold() {
            for (int over = cold.size() - rules.value(Rules.COLD); over > 0; over--) {
                cold.remove(0);
            }
        }

        private void letGo(int row, int why) {
            int key = entries.get(row, Entries.KEY);
            if (entries.isDirty(row)) {
                ledger.noteWritten(key, entries.get(row, Entries.VALUE));
            }
            ledger.note(why, key);
            entries.remove(row);
        }

        /** All that are picked go, entries first, then cold ones: how many. */
        int letAllGo(int by, int what) {
            int gone = 0;
            int row = 0;
            for (int left = entries.size(); left > 0; left--) {
                if (entries.isPicked(row, by, what)) {
                    letGo(row, by == Entries.BY_STALE ? Ledger.WENT_STALE : Ledger.DROPPED);
                    gone++;
                } else {
                    row++;
                }
            }
            for (int coldRow = cold.size() - 1; coldRow >= 0; coldRow--) {
                if (cold.isPicked(coldRow, by, what)) {
                    cold.remove(coldRow);
                    gone++;
                }
            }
            return gone;
        }

        /** Whether there is an entry that took the value; if not, the value is written at once. */
        boolean overwrite(int key, int value) {
            int row = entries.rowOf(key);
            if (row == NOWHERE || entries.isStale(row)) {
                ledger.noteWritten(key, value);
                return false;
            }
            dirtySoFar++;
            entries.set(row, Entries.VALUE, value);
            entries.set(row, Entries.SINCE, rules.now());
            entries.set(row, Entries.DIRTY, dirtySoFar);
            return true;
        }

        int writeOutDirty() {
            int dirty = entries.howMany(Entries.BY_DIRTY, NONE);
            for (int left = dirty; left > 0; left--) {
                int row = entries.firstDirty();
                ledger.noteWritten(entries.get(row, Entries.KEY), entries.get(row, Entries.VALUE));
                entries.set(row, Entries.DIRTY, 0);
            }
            return dirty;
        }

        /** How many entries would go if a key came with a weight, or NOT. */
        int wouldGoFor(int key, int weight) {
            int own = entries.rowOf(key);
            int room = rules.value(Rules.ROOM);
            if (weight > room || own == NOWHERE && !mayComeIn(key, weight)) {
                return NOT;
            }
            int over = entries.weight() - entries.get(own, Entries.WEIGHT) + weight - room;
            int gone = 0;
            int row = NOWHERE;
            for (int left = entries.size(); left > 0 && over > 0; left--) {
                row = entries.nextToGo(row, key);
                over -= entries.get(row, Entries.WEIGHT);
                gone++;
            }
            return gone;
        }

        void copyFrom(Shelf other) {
            entries.copyFrom(other.entries);
            cold.copyFrom(other.cold);
            sketch.copyFrom(other.sketch);
            uses = other.uses;
            usesInWindow = other.usesInWindow;
            entriesSoFar = other.entriesSoFar;
            dirtySoFar = other.dirtySoFar;
        }
    }

    /**
     * The loads, who waits for them, and what was delivered. Loads stand in the order of the line, and the first in
     * line runs first: so those that run stand ahead of those that do not, in the order in which they began.
     */
    private static final class Loads {
        static final int WAIT_KEY = 0, WAIT_ASKER = 1;
        static final int BOX_ASKER = 0, BOX_KEY = 1, BOX_VALUE = 2;
        private static final int LOAD_KEY = 0, LOAD_RUNS = 1, LOAD_BEGAN = 2;
        /** One wait needs a feed() and an ask(), of 512 calls. */
        private static final int MOST_LOADS = 256;
        private static final int MOST_IN_BOX = 12;
        private static final int LEASE_CODE = 99;

        private final Rules rules;
        private final Ledger ledger;
        private final Table line;
        private final Table waits;
        private final Table boxes;

        Loads(Rules rules, Ledger ledger) {
            this.rules = rules;
            this.ledger = ledger;
            line = new Table(MOST_LOADS, 3);
            waits = new Table(MOST_LOADS, 2);
            boxes = new Table(MOST_ASKERS * MOST_IN_BOX, 3);
        }

        int rowOf(int key) {
            return line.find(LOAD_KEY, key, 0);
        }

        boolean runs(int key) {
            return line.get(rowOf(key), LOAD_RUNS) == 1;
        }

        int running() {
            return line.howMany(LOAD_RUNS, 1);
        }

        int inLine() {
            return line.howMany(LOAD_RUNS, 0);
        }

        void lineUp(int key) {
            line.push(key, 0, 0);
            ledger.note(Ledger.LINED_UP, key);
            runWhatMay();
        }

        void runWhatMay() {
            int row = running();
            for (int free = rules.value(Rules.LOADERS) - row; free > 0 && row < line.size(); free--) {
                line.set(row, LOAD_RUNS, 1);
                line.set(row, LOAD_BEGAN, rules.now());
                ledger.noteTold(line.get(row, LOAD_KEY));
                row++;
            }
        }

        /** The asker waits for the load of a key, which is put in line if there is none; twice it does not wait. */
        void waitFor(int asker, int key) {
            if (rowOf(key) == NOWHERE) {
                waits.push(key, asker, 0);
                lineUp(key);
            } else if (rowOfWait(asker, key) == NOWHERE) {
                waits.push(key, asker, 0);
                ledger.note(Ledger.JOINED, key);
            }
        }

        private int rowOfWait(int asker, int key) {
            for (int row = 0; row < waits.size(); row++) {
                if (waits.get(row, WAIT_KEY) == key && waits.get(row, WAIT_ASKER) == asker) {
                    return row;
                }
            }
            return NOWHERE;
        }

        boolean waitNoMore(int asker, int key) {
            int row = rowOfWait(asker, key);
            if (row == NOWHERE) {
                return false;
            }
            waits.remove(row);
            if (!runs(key) && waits.howMany(WAIT_KEY, key) == 0) {
                line.remove(rowOf(key));
            }
            return true;
        }

        int waitingAskers() {
            int waiting = 0;
            for (int asker = 0; asker < MOST_ASKERS; asker++) {
                if (waits.howMany(WAIT_ASKER, asker) > 0) {
                    waiting++;
                }
            }
            return waiting;
        }

        /** The load of a key is no more, and all who wait for it get the value: how many. */
        int end(int key, int value) {
            int delivered = 0;
            for (int row = 0; row < waits.size(); row++) {
                if (waits.get(row, WAIT_KEY) == key) {
                    deliver(waits.get(row, WAIT_ASKER), key, value);
                    delivered++;
                }
            }
            waits.removeAll(WAIT_KEY, key);
            line.remove(rowOf(key));
            return delivered;
        }

        private void deliver(int asker, int key, int value) {
            if (boxes.howMany(BOX_ASKER, asker) >= MOST_IN_BOX) {
                boxes.remove(firstDelivery(asker));
                ledger.tally(Ledger.SUM_LOST);
            }
            boxes.push(asker, key, value);
            ledger.noteDelivered(asker);
        }

        int firstDelivery(int asker) {
            return boxes.find(BOX_ASKER, asker, 0);
        }

        int fail(int key, int code) {
            ledger.note(Ledger.FAILED, key);
            int delivered = end(key, -code);
            runWhatMay();
            return delivered;
        }

        void endLeases() {
            for (int left = running(); left > 0 && rules.hasPassed(Rules.LEASE, line.get(0, LOAD_BEGAN)); left--) {
                int key = line.get(0, LOAD_KEY);
                ledger.note(Ledger.LEASE_ENDED, key);
                fail(key, LEASE_CODE);
            }
        }

        void copyFrom(Loads other) {
            line.copyFrom(other.line);
            waits.copyFrom(other.waits);
            boxes.copyFrom(other.boxes);
        }
    }

    /** A row of keys asked for by an empty cache that lets go by another rule. */
    private static final class Replays {
        static final int LRU = 0, LFU = 1, FIFO = 2, AGED = 3;
        private static final int KEY = 0, COUNT = 1, LAST = 2;

        /** The keys that are in, in the order in which they came. */
        private final Table places;

        Replays() {
            places = new Table(MOST_PLACES, 3);
        }

        int hits(Table keys, int rule, int n, int window) {
            places.clear();
            int hits = 0;
            int usesInWindow = 0;
            for (int use = 0; use < keys.size(); use++) {
                int key = keys.get(use, 0);
                int row = places.find(KEY, key, 0);
                if (row != NOWHERE) {
                    hits++;
                    places.set(row, COUNT, places.get(row, COUNT) + 1);
                    places.set(row, LAST, use);
                } else {
                    if (places.size() >= n) {
                        places.remove(firstToGo(rule));
                    }
                    places.push(key, 1, use);
                }
                usesInWindow++;
                if (rule == AGED && usesInWindow >= window) {
                    usesInWindow = 0;
                    halveCounts();
                }
            }
            return hits;
        }

        private int firstToGo(int rule) {
            int best = 0;
            for (int row = 1; row < places.size() && rule != FIFO; row++) {
                boolean byCount = rule != LRU && places.get(row, COUNT) != places.get(best, COUNT);
                int column = byCount ? COUNT : LAST;
                if (places.get(row, column) < places.get(best, column)) {
                    best = row;
                }
            }
            return best;
        }

        private void halveCounts() {
            for (int row = 0; row < places.size(); row++) {
                places.set(row, COUNT, places.get(row, COUNT) / 2);
            }
        }
    }

    /** All that an image keeps. */
    private static final class State {
        private final Rules rules;
        private final Ledger ledger;
        private final Shelf shelf;
        private final Loads loads;

        State() {
            rules = new Rules();
            ledger = new Ledger(rules);
            shelf = new Shelf(rules, ledger);
            loads = new Loads(rules, ledger);
        }

        void copyFrom(State other) {
            rules.copyFrom(other.rules);
            ledger.copyFrom(other.ledger);
            shelf.copyFrom(other.shelf);
            loads.copyFrom(other.loads);
        }
    }
}
