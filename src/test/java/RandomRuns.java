import java.lang.reflect.Method;
import java.lang.reflect.Modifier;
import java.util.ArrayList;
import java.util.Arrays;
import java.util.List;
import java.util.Map;
import java.util.Random;
import java.util.TreeMap;

/**
 * Long runs of calls, drawn by fixed seeds, on the program and on the Model: each answer must be the same. Behind
 * each run both are looked through. Then calls with any arguments, far more than 512: none may throw.
 */
final class RandomRuns {
    private static final String[] KEYS =
            {"a", "b", "g", "o", "w", "ab", "abc", "abd", "zebra", "abcdef", "zzzzzz", "q"};
    private static final String[] NO_KEYS = {"", " ", "a ", " a", "a b", "abcdefg", "a  b"};
    private static final int[] ODD = {Integer.MIN_VALUE, -1001, -4, -3, -2, -1, 0, 1, 2, 3, 7, 8, 9, 10, 12, 13, 14, 15,
        16, 20, 21, 40, 60, 99, 100, 200, 255, 256, 999, 1000, 1001, 99999, 100000, Integer.MAX_VALUE};

    private static final Map<String, Method> FACE = methodsOf(FrequencyShelf.class);
    private static final Map<String, Method> OF_MODEL = methodsOf(Model.class);

    private record Call(String name, Integer[] args, long answer) {
        @Override
        public String toString() {
            return name + Arrays.toString(args) + " " + answer;
        }
    }

    private final Random random;
    private final FrequencyShelf shelf = new FrequencyShelf();
    private final Model model = new Model();
    private final List<Call> calls = new ArrayList<>();
    private final int ways;
    private int wrong = 0;

    private RandomRuns(long seed) {
        random = new Random(seed);
        ways = (int) (seed % 4);
    }

    public static void main(String[] args) throws Exception {
        int runs = args.length > 0 ? Integer.parseInt(args[0]) : 3000;
        for (int seed = 0; seed < runs; seed++) {
            RandomRuns run = new RandomRuns(seed);
            run.setUp();
            for (int i = 0; i < 220 && run.wrong == 0; i++) {
                run.draw();
            }
            run.lookThrough();
            if (run.wrong != 0) {
                int from = Math.max(0, run.calls.size() - 60);
                System.out.println("seed " + seed + ": .. " + run.calls.subList(from, run.calls.size()));
                System.exit(1);
            }
        }
        System.out.println(runs + " runs went as the model's");
        for (int seed = 0; seed < 40; seed++) {
            anyCalls(new Random(seed));
        }
        System.out.println("no call threw");
    }

    private static Map<String, Method> methodsOf(Class<?> where) {
        Map<String, Method> methods = new TreeMap<>();
        for (Method method : where.getDeclaredMethods()) {
            if (!Modifier.isPrivate(method.getModifiers()) && !Modifier.isStatic(method.getModifiers())) {
                methods.put(method.getName(), method);
            }
        }
        return methods;
    }

    private void call(String name, Integer... args) throws Exception {
        long got = ((Number) FACE.get(name).invoke(shelf, (Object[]) args)).longValue();
        long want = ((Number) OF_MODEL.get(name).invoke(model, (Object[]) args)).longValue();
        calls.add(new Call(name, args, got));
        if (got != want && wrong == 0) {
            calls.add(new Call("DUE", new Integer[0], want));
            wrong++;
        }
    }

    private int below(int n) {
        return random.nextInt(n);
    }

    private void tape(String bytes) throws Exception {
        for (char letter : bytes.toCharArray()) {
            call("feed", (int) letter);
        }
    }

    private void key() throws Exception {
        tape(below(60) == 0 ? NO_KEYS[below(NO_KEYS.length)] : KEYS[below(KEYS.length - 6 * (ways % 2))]);
    }

    private void setUp() throws Exception {
        call("rule", 0, 5 + below(30));
        call("rule", 1, 1 + below(20));
        call("rule", 2, below(3) == 0 ? 0 : 5 + below(20));
        call("rule", 3, below(2) == 0 ? 0 : 1 + below(10));
        call("rule", 4, 1 + below(4));
        call("rule", 5, below(2));
        call("rule", 6, below(3) == 0 ? 0 : below(6));
        call("rule", 7, below(2) == 0 ? 0 : 1 + below(9));
    }

    private void draw() throws Exception {
        int what = below(100);
        if (what < 30) {
            key();
            call("ask", below(ways == 3 ? 2 : 16));
        } else if (what < 50) {
            cameToOneThatRuns();
        } else if (what < 54) {
            key();
            call("failed", 1 + below(99));
        } else if (what < 60) {
            call("step", 1 + below(4));
        } else if (what < 64) {
            key();
            call("write", below(1000));
        } else if (what < 66) {
            call("take", below(16));
        } else if (what < 68) {
            key();
            call("giveUp", below(4));
        } else if (what < 71) {
            ruleToldAnew();
        } else if (what < 74) {
            dropSome();
        } else if (what < 75) {
            call(below(2) == 0 ? "image" : "back");
        } else if (what < 77) {
            replayOne();
        } else {
            lookAtOne();
        }
    }

    private void cameToOneThatRuns() throws Exception {
        int running = Math.max(1, model.count(2));
        int told = model.told(-1, 0);
        int i = Math.max(0, told - 1 - below(running + 1));
        StringBuilder key = new StringBuilder();
        for (int j = 0; told > 0 && j < model.told(i, -1); j++) {
            key.append((char) model.told(i, j));
        }
        tape(key.toString());
        call("came", below(1000), 1 + below(below(6) == 0 ? 20 : 8), below(256));
    }

    private void ruleToldAnew() throws Exception {
        int[] most = {30, 20, 25, 12, 5, 1, 6, 12};
        int what = below(8);
        call("rule", what, below(most[what] + 1));
    }

    private void dropSome() throws Exception {
        switch (below(5)) {
            case 0:
                key();
                call("drop");
                break;
            case 1:
                call("dropTag", below(8));
                break;
            case 2:
                tape(below(2) == 0 ? "ab" : "z");
                call("dropAll");
                break;
            case 3:
                call("sweep");
                break;
            default:
                call("flush");
        }
    }

    private void replayOne() throws Exception {
        if (below(2) == 0) {
            call("replayed", below(4), 1 + below(12));
            return;
        }
        StringBuilder row = new StringBuilder(KEYS[below(KEYS.length)]);
        for (int i = below(14); i >= 0; i--) {
            row.append(below(80) == 0 ? "  " : " ").append(KEYS[below(6)]);
        }
        tape(row.toString());
        call("replay", below(4), 1 + below(4));
    }

    private void lookAtOne() throws Exception {
        String[] ofKeys = {"load", "entry", "would", "follows"};
        switch (below(6)) {
            case 0:
                key();
                call("seen");
                break;
            case 1:
                call("toGo", below(8), below(5) - 2);
                break;
            case 2:
                call("text", below(8), below(20) - 1);
                break;
            default:
                key();
                call(ofKeys[below(4)], below(12) - 2);
        }
    }

    private void lookThrough() throws Exception {
        for (int i = 0; i < 41; i++) {
            for (int j = -3; j < 8; j++) {
                call("toGo", i, j);
                call("cold", i, j);
                call("writtenOf", i, j);
                call("book", i, j);
                call("told", i, j);
            }
        }
        for (int i = -1; i < 16; i++) {
            call("led", i);
            call("count", i);
            for (int j = -2; j < 7; j++) {
                call("of", i, j);
                call("box", i, j);
                call("first", i, j);
                call("tagged", i, j);
                call("replayed", j, i);
            }
            for (int row = 0; row < 4; row++) {
                call("sketch", row, i);
            }
            for (int j = -1; j < 32; j++) {
                call("text", i, j);
            }
        }
        for (String key : KEYS) {
            for (int what = 0; what < 10; what++) {
                tape(key);
                call("load", what);
                tape(key);
                call("entry", what);
                tape(key);
                call("would", 1 + what * 2);
                tape(key);
                call("follows", what - 2);
            }
        }
        for (int asker = 0; asker < 16; asker++) {
            for (int i = 0; i < 13; i++) {
                call("take", asker);
                call("first", asker, 0);
            }
        }
    }

    private static void anyCalls(Random random) throws Exception {
        FrequencyShelf shelf = new FrequencyShelf();
        List<Method> all = List.copyOf(FACE.values());
        shelf.rule(0, 200);
        for (int i = 0; i < 20000; i++) {
            int letters = random.nextInt(7);
            for (int j = 0; j < letters; j++) {
                shelf.feed('a' + random.nextInt(26));
            }
            Method method = random.nextInt(3) == 0 ? FACE.get("ask") : all.get(random.nextInt(all.size()));
            Object[] args = new Object[method.getParameterCount()];
            for (int j = 0; j < args.length; j++) {
                args[j] = random.nextInt(4) == 0 ? random.nextInt(20) : ODD[random.nextInt(ODD.length)];
            }
            method.invoke(shelf, args);
        }
    }
}
