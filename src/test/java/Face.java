import java.lang.reflect.Field;
import java.lang.reflect.Method;
import java.lang.reflect.Modifier;
import java.util.Arrays;
import java.util.List;
import java.util.Set;
import java.util.TreeSet;

/** The public face as the document writes it (LANGUAGE.md, rule 1). */
final class Face extends Script {
    private static final List<String> METHODS = List.of("int rule(int, int)", "int step(int)", "int feed(int)",
            "int ask(int)", "int giveUp(int)", "int take(int)", "int first(int, int)", "int box(int, int)",
            "int write(int)", "int flush()", "int writtenOf(int, int)", "int of(int, int)", "int came(int, int, int)",
            "int failed(int)", "int told(int, int)", "int load(int)", "int entry(int)", "int seen()",
            "int sketch(int, int)", "int drop()", "int dropTag(int)", "int dropAll()", "int tagged(int, int)",
            "int sweep()", "int toGo(int, int)", "int would(int)", "int cold(int, int)", "int follows(int)",
            "int replay(int, int)", "int replayed(int, int)", "int text(int, int)", "long book(int, int)",
            "long led(int)", "int image()", "int back()", "int count(int)");
    private static final List<String> CONSTANTS = List.of("BAD", "NO_KEY", "NOT", "FULL", "STATE", "WAITS");

    public static void main(String[] args) {
        Face face = new Face();
        face.methods();
        face.otherMembers();
        face.classesInside();
        end();
    }

    void methods() {
        Set<String> open = new TreeSet<>();
        Set<String> openNames = new TreeSet<>();
        Set<String> privateNames = new TreeSet<>();
        for (Method method : FrequencyShelf.class.getDeclaredMethods()) {
            if (Modifier.isPrivate(method.getModifiers())) {
                privateNames.add(method.getName());
                continue;
            }
            List<String> types = Arrays.stream(method.getParameterTypes()).map(Class::getName).toList();
            open.add(method.getReturnType() + " " + method.getName() + "(" + String.join(", ", types) + ")");
            openNames.add(method.getName());
        }
        dueText(new TreeSet<>(METHODS).toString(), open.toString());
        privateNames.retainAll(openNames);
        dueText("[]", privateNames.toString());
    }

    void otherMembers() {
        Set<String> open = new TreeSet<>();
        for (Field field : FrequencyShelf.class.getDeclaredFields()) {
            if (!Modifier.isPrivate(field.getModifiers())) {
                open.add(field.getName());
            }
        }
        dueText(new TreeSet<>(CONSTANTS).toString(), open.toString());
        due(1, FrequencyShelf.class.getConstructors().length);
        due(1, FrequencyShelf.class.getDeclaredConstructors().length);
        dueText("public final", Modifier.toString(FrequencyShelf.class.getModifiers()));
        int[] answers = {BAD, NO_KEY, NOT, FULL, STATE, WAITS};
        for (int i = 0; i < answers.length; i++) {
            due(-1001 - i, answers[i]);
        }
    }

    void classesInside() {
        Class<?>[] inside = FrequencyShelf.class.getDeclaredClasses();
        for (Class<?> one : inside) {
            due(1, Modifier.isStatic(one.getModifiers()) ? 1 : 0);
            due(0, Modifier.isPublic(one.getModifiers()) ? 1 : 0);
        }
    }
}
