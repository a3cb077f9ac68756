import java.io.ByteArrayOutputStream;
import java.io.IOException;
import java.io.OutputStream;
import java.io.PrintStream;
import java.lang.annotation.Annotation;
import java.lang.reflect.Constructor;
import java.lang.reflect.Field;
import java.lang.reflect.InvocationTargetException;
import java.lang.reflect.Method;
import java.net.URI;
import java.nio.file.Files;
import java.nio.file.Path;
import java.util.ArrayList;
import java.util.List;
import java.util.Map;
import java.util.concurrent.ConcurrentHashMap;
import java.util.concurrent.ExecutorService;
import java.util.concurrent.Executors;
import java.util.concurrent.Future;
import java.util.regex.Matcher;
import java.util.regex.Pattern;
import javax.tools.FileObject;
import javax.tools.ForwardingJavaFileManager;
import javax.tools.JavaCompiler;
import javax.tools.JavaFileManager;
import javax.tools.JavaFileObject;
import javax.tools.SimpleJavaFileObject;
import javax.tools.ToolProvider;

/**
 * Breaks the program in one place after the other and looks whether a test of a sentence fails then. Prints each
 * break that no test saw: it must be one that changes no answer, or a sentence lacks a test.
 *
 * <p>{@code java Mutants PROGRAM CLASSES}: the program's source, and the directory of the compiled tests.
 */
final class Mutants {
    /** What is broken, and into what; a number becomes one more and one less. */
    private static final String[][] BREAKS = {{" < ", " <= "}, {" <= ", " < "}, {" > ", " >= "}, {" >= ", " > "},
        {"==", "!="}, {"!=", "=="}, {"&&", "||"}, {"\\|\\|", "&&"}, {"\\+\\+", "--"}, {"--", "++"}, {"\\+=", "-="},
        {"-=", "+="}, {" \\+ ", " - "}, {" - ", " + "}, {" / ", " * "}, {" \\* ", " + "}, {" % ", " + "},
        {">>>", ">>"}, {"\\btrue\\b", "false"}, {"\\bfalse\\b", "true"}, {"!(?=[a-zA-Z(])", ""}, {"\\bmin\\b", "max"},
        {"\\bcontinue;", ";"}, {"\\b\\d+\\b", "more"}, {"\\b\\d+\\b", "less"}, {"\\belse if \\(", "if ("},
        {"\\bNOT\\b", "BAD"}, {"\\bSTATE\\b", "NOT"}, {"\\bNO_KEY\\b", "NOT"}, {"\\bFULL\\b", "BAD"},
        {"(?<=if \\().*(?=\\) \\{$)", "($0) && 1 > 2"}, {"(?<=if \\().*(?=\\) \\{$)", "($0) || 1 > 0"},
        {"^ +(?!return|private|static|public|int|boolean|break|continue|this)[a-z].*;$", ";"}};
    private static final String[] TESTS = {"KeysAndCalls", "Terms", "Loading", "InThought", "RulesAndTime", "Asking",
        "LoadsThatRun", "EntriesThatStay", "OtherRules", "WhatCameToPass"};
    private static final String SEEN = "seen", NOT_SEEN = "not seen", NO_PROGRAM = "no program";
    private static final int LONGEST_MILLIS = 20000;

    private record Mutant(String what, String source) { }

    /** The compiled tests with a program of its own, so that their sums are its own, too. */
    private static final class Room extends ClassLoader {
        private final Map<String, ByteArrayOutputStream> program;
        private final Path classes;

        Room(Map<String, ByteArrayOutputStream> program, Path classes) {
            super(getPlatformClassLoader());
            this.program = program;
            this.classes = classes;
        }

        @Override
        protected Class<?> findClass(String name) throws ClassNotFoundException {
            try {
                byte[] code = program.containsKey(name)
                        ? program.get(name).toByteArray()
                        : Files.readAllBytes(classes.resolve(name + ".class"));
                return defineClass(name, code, 0, code.length);
            } catch (IOException e) {
                throw new ClassNotFoundException(name, e);
            }
        }
    }

    private Mutants() {
    }

    public static void main(String[] args) throws Exception {
        List<Mutant> mutants = mutantsOf(Files.readAllLines(Path.of(args[0])));
        PrintStream out = System.out;
        System.setOut(new PrintStream(OutputStream.nullOutputStream()));
        ExecutorService workers = Executors.newFixedThreadPool(Runtime.getRuntime().availableProcessors());
        List<Future<String>> ends = new ArrayList<>();
        for (Mutant mutant : mutants) {
            ends.add(workers.submit(() -> judge(mutant.source(), Path.of(args[1]))));
        }
        int seen = 0;
        int notSeen = 0;
        for (int i = 0; i < mutants.size(); i++) {
            String end = ends.get(i).get();
            seen += end.equals(SEEN) ? 1 : 0;
            notSeen += end.equals(NOT_SEEN) ? 1 : 0;
            if (end.equals(NOT_SEEN)) {
                out.println(mutants.get(i).what());
            }
        }
        out.println(seen + " breaks seen by a test, " + notSeen + " not");
        System.exit(0);
    }

    private static List<Mutant> mutantsOf(List<String> lines) {
        List<Mutant> mutants = new ArrayList<>();
        for (int i = 0; i < lines.size(); i++) {
            String line = lines.get(i);
            if (line.isBlank() || line.trim().matches("(/?\\*|//).*")) {
                continue;
            }
            for (String[] one : BREAKS) {
                Matcher found = Pattern.compile(one[0]).matcher(line);
                while (found.find()) {
                    List<String> broken = new ArrayList<>(lines);
                    broken.set(i, line.substring(0, found.start()) + into(found.group(), one[1])
                            + line.substring(found.end()));
                    String what = (i + 1) + ": " + line.trim() + "   BECOMES   " + broken.get(i).trim();
                    mutants.add(new Mutant(what, String.join("\n", broken)));
                }
            }
        }
        return mutants;
    }

    private static String into(String was, String becomes) {
        switch (becomes) {
            case "more":
                return String.valueOf(Long.parseLong(was) + 1);
            case "less":
                return String.valueOf(Long.parseLong(was) - 1);
            default:
                return becomes.replace("$0", was);
        }
    }

    /** A break that ends in no answer at all is left alone behind its time: what it would do no test waits for. */
    private static String judge(String source, Path classes) throws InterruptedException {
        Map<String, ByteArrayOutputStream> program = compile(source);
        if (program.isEmpty()) {
            return NO_PROGRAM;
        }
        String[] end = {SEEN};
        Thread run = new Thread(() -> {
            try {
                end[0] = run(new Room(program, classes));
            } catch (ReflectiveOperationException e) {
                end[0] = SEEN;
            }
        });
        run.setDaemon(true);
        run.start();
        run.join(LONGEST_MILLIS);
        return end[0];
    }

    private static Map<String, ByteArrayOutputStream> compile(String source) {
        Map<String, ByteArrayOutputStream> made = new ConcurrentHashMap<>();
        JavaCompiler compiler = ToolProvider.getSystemJavaCompiler();
        JavaFileManager files = new ForwardingJavaFileManager<>(compiler.getStandardFileManager(null, null, null)) {
            @Override
            public JavaFileObject getJavaFileForOutput(Location where, String name, JavaFileObject.Kind kind,
                    FileObject beside) {
                return new SimpleJavaFileObject(URI.create("made:///" + name + ".class"), kind) {
                    @Override
                    public OutputStream openOutputStream() {
                        return made.computeIfAbsent(name, key -> new ByteArrayOutputStream());
                    }
                };
            }
        };
        JavaFileObject file = new SimpleJavaFileObject(URI.create("made:///FrequencyShelf.java"),
                JavaFileObject.Kind.SOURCE) {
            @Override
            public CharSequence getCharContent(boolean ignoreErrors) {
                return source;
            }
        };
        boolean whole = compiler.getTask(null, files, fault -> { }, List.of("-proc:none"), null, List.of(file)).call();
        return whole ? made : Map.of();
    }

    private static String run(ClassLoader room) throws ReflectiveOperationException {
        Field wrong = room.loadClass("Script").getDeclaredField("wrong");
        wrong.setAccessible(true);
        Class<? extends Annotation> says = room.loadClass("Says").asSubclass(Annotation.class);
        for (String name : TESTS) {
            Constructor<?> maker = room.loadClass(name).getDeclaredConstructor();
            maker.setAccessible(true);
            for (Method test : room.loadClass(name).getDeclaredMethods()) {
                if (test.isAnnotationPresent(says) && !passes(test, maker.newInstance(), wrong)) {
                    return SEEN;
                }
            }
        }
        return NOT_SEEN;
    }

    private static boolean passes(Method test, Object on, Field wrong) throws IllegalAccessException {
        test.setAccessible(true);
        try {
            test.invoke(on);
        } catch (InvocationTargetException e) {
            return false;
        }
        return wrong.getInt(null) == 0;
    }
}
