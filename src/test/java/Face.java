import java.io.IOException;
import java.lang.reflect.Field;
import java.lang.reflect.Method;
import java.lang.reflect.Modifier;
import java.nio.file.Files;
import java.nio.file.Path;
import java.util.Arrays;
import java.util.List;
import java.util.Set;
import java.util.TreeSet;
import java.util.regex.Matcher;
import java.util.regex.Pattern;

/** The public face as the document writes it, and those rules of LANGUAGE.md that the source's words tell. */
final class Face extends Script {
    private static final List<String> METHODS = List.of("int rule(int, int)", "int step(int)", "int feed(int)",
            "int ask(int)", "int giveUp(int)", "int take(int)", "int first(int, int)", "int box(int, int)",
            "int write(int)", "int flush()", "int writtenOf(int, int)", "int of(int, int)", "int came(int, int, int)",
            "int failed(int)", "int told(int, int)", "int load(int)", "int entry(int)", "int seen()",
            "int sketch(int, int)", "int drop()", "int dropTag(int)", "int dropAll()", "int tagged(int, int)",
            "int sweep()", "int toGo(int, int)", "int would(int)", "int cold(int, int)", "int follows(int)",
            "int replay(int, int)", "int replayed(int, int)", "int text(int, int)", "long book(int, int)",
            "long led(int)", "int image()", "int back()", "int count(int)");
    private static final List<String> CONSTANTS = List.of("BAD", "NO_KEY", "NOT", "FULL", "STATE", "WAITS");
    private static final List<String> FORBIDDEN = List.of("\\bthrow\\b", "\\btry\\b", "\\bcatch\\b",
            "\\bsynchronized\\b", "\\bassert\\b", "\\bpackage\\b", "\\bprotected\\b", "->", "::", "Exact\\(",
            "\\bhashCode\\b", "\\btoString\\b", "\\bRandom\\b", "\\bThread\\b", "System\\.(?!arraycopy)",
            "import (?!java\\.util\\.(ArrayList|List|Arrays|Iterator);)", "static (?!final|int|boolean|void)");
    private static final int LONGEST_METHOD = 60;
    private static final int MOST_CLASSES = 12;

    public static void main(String[] args) throws IOException {
        String source = Files.readString(Path.of("src/main/java/FrequencyShelf.java"));
        Face face = new Face();
        face.methods();
        face.otherMembers();
        face.classesInside();
        face.words(source);
        face.lengths(source);
        end();
    }

    void methods() {
        Set<String> open = new TreeSet<>();
        Set<String> openNames = new TreeSet<>();
        Set<String> privateNames = new TreeSet<>();
        for (Method method : FrequencyShelf.class.getDeclaredMethods()) {
            if (Modifier.isPrivate(method.getModifiers())) {
                privateNames.add(method.getName());
                continue;
            }
            List<String> types = Arrays.stream(method.getParameterTypes()).map(Class::getName).toList();
            open.add(method.getReturnType() + " " + method.getName() + "(" + String.join(", ", types) + ")");
            openNames.add(method.getName());
        }
        dueText(new TreeSet<>(METHODS).toString(), open.toString());
        privateNames.retainAll(openNames);
        dueText("[]", privateNames.toString());
    }

    void otherMembers() {
        Set<String> open = new TreeSet<>();
        for (Field field : FrequencyShelf.class.getDeclaredFields()) {
            if (!Modifier.isPrivate(field.getModifiers())) {
                open.add(field.getName());
            }
        }
        dueText(new TreeSet<>(CONSTANTS).toString(), open.toString());
        due(1, FrequencyShelf.class.getConstructors().length);
        due(1, FrequencyShelf.class.getDeclaredConstructors().length);
        dueText("public final", Modifier.toString(FrequencyShelf.class.getModifiers()));
        int[] answers = {BAD, NO_KEY, NOT, FULL, STATE, WAITS};
        for (int i = 0; i < answers.length; i++) {
            due(-1001 - i, answers[i]);
        }
    }

    void classesInside() {
        Class<?>[] inside = FrequencyShelf.class.getDeclaredClasses();
        due(1, inside.length < MOST_CLASSES ? 1 : 0);
        for (Class<?> one : inside) {
            due(1, Modifier.isStatic(one.getModifiers()) ? 1 : 0);
            due(0, Modifier.isPublic(one.getModifiers()) ? 1 : 0);
        }
    }

    void words(String source) {
        String code = source.replaceAll("(?s)/\\*.*?\\*/", "").replaceAll("//[^\n]*", "");
        for (String word : FORBIDDEN) {
            Matcher found = Pattern.compile(word).matcher(code);
            dueText("", found.find() ? found.group() : "");
        }
    }

    /** A method begins and ends with lines of the same indent: four blanks, or eight inside a class. */
    void lengths(String source) {
        List<String> lines = source.lines().toList();
        Pattern head = Pattern.compile("( {4}| {8})[a-z].*\\) \\{");
        for (int i = 0; i < lines.size(); i++) {
            Matcher begins = head.matcher(lines.get(i));
            if (!begins.matches()) {
                continue;
            }
            int end = i;
            while (!lines.get(end).equals(begins.group(1) + "}")) {
                end++;
            }
            due(1, end - i <= LONGEST_METHOD ? 1 : 0);
        }
    }
}
