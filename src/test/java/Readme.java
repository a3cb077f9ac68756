import java.io.IOException;
import java.lang.reflect.Method;
import java.lang.reflect.Modifier;
import java.nio.file.Files;
import java.nio.file.Path;
import java.util.Arrays;
import java.util.List;
import java.util.Set;
import java.util.TreeSet;
import java.util.regex.Matcher;
import java.util.regex.Pattern;

/**
 * README.md's examples answer as README.md says. A line of an example makes a new object, or is one call with its
 * answer (a number or the name of a constant, and more words behind a colon); any other line fails.
 */
final class Readme {
    private static final Pattern EXAMPLE = Pattern.compile("(?ms)^```java\\n(.*?)^```$");
    private static final String NEW_OBJECT = "FrequencyShelf shelf = new FrequencyShelf();";
    private static final Pattern CALL = Pattern.compile("shelf\\.(\\w+)\\((.*?)\\); +// (-?\\d+|[A-Z_]+)(: .+)?");
    private static final Pattern WORD = Pattern.compile("'(.)'|(-?\\d+)");

    private final Set<String> shown = new TreeSet<>();
    private int answers = 0;
    private int wrong = 0;
    private FrequencyShelf shelf = null;

    public static void main(String[] args) throws IOException, ReflectiveOperationException {
        String text = Files.readString(Path.of("README.md"));
        Readme readme = new Readme();
        Matcher example = EXAMPLE.matcher(text);
        while (example.find()) {
            readme.shelf = null;
            for (String line : example.group(1).split("\n")) {
                readme.read(line);
            }
        }
        readme.showsEachCall();
        readme.namesEachTest(text);
        System.out.println(readme.answers + " answers of README.md looked at, " + readme.wrong + " wrong");
        if (readme.wrong != 0 || readme.answers == 0) {
            System.exit(1);
        }
    }

    private void fail(String what) {
        wrong++;
        System.out.println("README.md: " + what);
    }

    private void read(String line) throws ReflectiveOperationException {
        Matcher call = CALL.matcher(line);
        if (line.equals(NEW_OBJECT)) {
            shelf = new FrequencyShelf();
        } else if (shelf == null || !call.matches()) {
            fail("no object, or no call with its answer: " + line);
        } else {
            long want = number(call.group(3));
            long got = answer(call.group(1), call.group(2));
            answers++;
            if (got != want) {
                fail(line + " (it answered " + got + ")");
            }
        }
    }

    private static long number(String word) throws ReflectiveOperationException {
        return Character.isUpperCase(word.charAt(0))
                ? FrequencyShelf.class.getField(word).getInt(null)
                : Long.parseLong(word);
    }

    private long answer(String name, String words) throws ReflectiveOperationException {
        List<Object> arguments = words.isEmpty() ? List.of() : List.of(words.split(", ")).stream()
                .map(Readme::argument).toList();
        Class<?>[] types = new Class<?>[arguments.size()];
        Arrays.fill(types, int.class);
        shown.add(name);
        Method method = FrequencyShelf.class.getMethod(name, types);
        return ((Number) method.invoke(shelf, arguments.toArray())).longValue();
    }

    private static Object argument(String word) {
        Matcher matcher = WORD.matcher(word);
        if (!matcher.matches()) {
            throw new IllegalArgumentException("no argument: " + word);
        }
        return matcher.group(1) == null ? Integer.parseInt(word) : (int) word.charAt(1);
    }

    private void showsEachCall() {
        for (Method method : FrequencyShelf.class.getDeclaredMethods()) {
            if (Modifier.isPublic(method.getModifiers()) && !shown.contains(method.getName())) {
                fail("no example shows " + method.getName() + "()");
            }
        }
    }

    private void namesEachTest(String text) throws IOException {
        try (var files = Files.list(Path.of("src/test/java"))) {
            for (Path file : files.sorted().toList()) {
                String name = file.getFileName().toString().replace(".java", "");
                boolean isTest = Files.readString(file).matches("(?s).*(static void main|@Says\\().*");
                if (isTest && !text.contains("`" + name + "`")) {
                    fail("the test " + name + " is not named");
                }
            }
        }
    }
}
