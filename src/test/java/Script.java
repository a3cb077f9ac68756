/** Calls on one object of FrequencyShelf, with the answers that are due; prints each one that is not. */
class Script {
    static final int BAD = FrequencyShelf.BAD, NO_KEY = FrequencyShelf.NO_KEY, NOT = FrequencyShelf.NOT,
            FULL = FrequencyShelf.FULL, STATE = FrequencyShelf.STATE, WAITS = FrequencyShelf.WAITS;

    static int made = 0;
    static int wrong = 0;

    FrequencyShelf x = new FrequencyShelf();

    /** The object with these bytes put on its tape. */
    FrequencyShelf on(String bytes) {
        for (char letter : bytes.toCharArray()) {
            x.feed(letter);
        }
        return x;
    }

    /** Asker 0 asks for these keys, parted by blanks, one behind the other. */
    void ask(String keys) {
        for (String key : keys.split(" ")) {
            on(key).ask(0);
        }
    }

    void due(long want, long got) {
        made++;
        if (got != want) {
            wrong++;
            System.out.println(new Throwable().getStackTrace()[1] + " answered " + got + ", due is " + want);
        }
    }

    /** An entry comes to be: it is asked for by asker 15 (once), and its load comes. The box is emptied. */
    void bring(String key, int value, int weight, int tags) {
        on(key).ask(15);
        on(key).came(value, weight, tags);
        x.take(15);
    }

    /** The bytes that a call answers for places 0, 1 .. as a text. */
    interface Bytes {
        int at(int place);
    }

    static String text(Bytes bytes) {
        StringBuilder text = new StringBuilder();
        int letter = bytes.at(0);
        for (int place = 1; place < 100 && letter > 0; place++) {
            text.append((char) letter);
            letter = bytes.at(place);
        }
        return text.toString();
    }

    void dueText(String want, String got) {
        made++;
        if (!want.equals(got)) {
            wrong++;
            System.out.println(new Throwable().getStackTrace()[1] + " answered '" + got + "', due is '" + want + "'");
        }
    }

    /** All entries, as text() tells them, the first to go first. */
    String entries() {
        StringBuilder all = new StringBuilder();
        for (int i = 0; x.text(i, -1) > 0; i++) {
            int n = i;
            all.append(i == 0 ? "" : "; ").append(text(j -> x.text(n, j)));
        }
        return all.toString();
    }

    String coldOnes() {
        StringBuilder all = new StringBuilder();
        for (int i = 0; x.cold(i, -1) > 0; i++) {
            int n = i;
            all.append(i == 0 ? "" : " ").append(text(j -> x.cold(n, j)));
        }
        return all.toString();
    }

    String toldOnes() {
        StringBuilder all = new StringBuilder();
        for (int i = 0; i < x.told(-1, 0); i++) {
            int n = i;
            all.append(i == 0 ? "" : " ").append(text(j -> x.told(n, j)));
        }
        return all.toString();
    }

    String writtenOnes() {
        StringBuilder all = new StringBuilder();
        for (int i = 0; x.writtenOf(i, -2) > 0; i++) {
            int n = i;
            all.append(i == 0 ? "" : " ").append(text(j -> x.writtenOf(n, j))).append(x.writtenOf(i, -1));
        }
        return all.toString();
    }

    /** The kinds of the lines of the book from one on; a full book is no good here, as its lines move. */
    String bookFrom(int from) {
        StringBuilder all = new StringBuilder(bookSize() < 40 ? "" : "full ");
        for (int i = from; x.book(i, 0) >= 0; i++) {
            all.append(i == from ? "" : " ").append(x.book(i, 0));
        }
        return all.toString();
    }

    int bookSize() {
        int size = 0;
        while (x.book(size, 0) >= 0) {
            size++;
        }
        return size;
    }

    static void end() {
        System.out.println(made + " answers looked at, " + wrong + " wrong");
        if (wrong != 0 || made == 0) {
            System.exit(1);
        }
    }
}
