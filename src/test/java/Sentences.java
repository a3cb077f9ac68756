import java.io.IOException;
import java.lang.reflect.Constructor;
import java.lang.reflect.Method;
import java.nio.file.Path;
import java.util.Arrays;
import java.util.Comparator;
import java.util.List;
import java.util.regex.Matcher;
import java.util.regex.Pattern;

/**
 * Runs each test that quotes the document, on a new object of its own. Fails if an answer is not as due, if a quote
 * does not stand where the test's name says, or if a bound of the document is quoted by no test.
 *
 * <p>With a word, it runs the tests alone whose names begin with it: {@code java Sentences p30}.
 */
final class Sentences {
    private static final List<Class<? extends Script>> TESTS = List.of(KeysAndCalls.class, Terms.class,
            Loading.class, InThought.class, RulesAndTime.class, Asking.class, LoadsThatRun.class,
            EntriesThatStay.class, OtherRules.class, WhatCameToPass.class);
    private static final Pattern NAME = Pattern.compile("(is|terms|p(\\d+))[A-Z].*");

    private final Document document;
    private final String start;
    private int ran = 0;
    private int failed = 0;

    private Sentences(Document document, String start) {
        this.document = document;
        this.start = start;
    }

    public static void main(String[] args) throws IOException, ReflectiveOperationException {
        Document document = new Document(Path.of("../shared/DOC.md"));
        Sentences all = new Sentences(document, args.length > 0 ? args[0] : "");
        for (Class<? extends Script> tests : TESTS) {
            all.runAll(tests);
        }
        if (args.length == 0) {
            document.notQuoted().forEach(left -> all.fail("no test quotes " + left));
            if (document.sections() != 39) {
                all.fail("the document has " + document.sections() + " sections that promise something");
            }
        }
        System.out.println(Script.made + " answers looked at in " + all.ran + " tests, " + all.failed + " failed");
        if (all.failed != 0 || all.ran == 0) {
            System.exit(1);
        }
    }

    private void fail(String what) {
        failed++;
        System.out.println(what);
    }

    private void runAll(Class<? extends Script> tests) throws ReflectiveOperationException {
        Method[] methods = tests.getDeclaredMethods();
        Arrays.sort(methods, Comparator.comparing(Method::getName));
        for (Method method : methods) {
            Matcher name = NAME.matcher(method.getName());
            Says says = method.getAnnotation(Says.class);
            if (says == null && name.matches()) {
                fail(method + " quotes nothing");
            } else if (says != null && method.getName().startsWith(start)) {
                run(tests, method, name.matches() ? sectionOf(name) : "", says.value());
            }
        }
    }

    private static String sectionOf(Matcher name) {
        switch (name.group(1)) {
            case "is":
                return "What it is";
            case "terms":
                return "Terms";
            default:
                return "Promise " + name.group(2);
        }
    }

    private void run(Class<? extends Script> tests, Method method, String section, String[] quotes)
            throws ReflectiveOperationException {
        String test = tests.getName() + "." + method.getName();
        for (String words : quotes) {
            if (!document.quote(section, words)) {
                fail(test + ": '" + words + "' does not stand under '" + section + "'");
            }
        }
        Constructor<? extends Script> made = tests.getDeclaredConstructor();
        int wrong = Script.wrong;
        int looked = Script.made;
        method.setAccessible(true);
        method.invoke(made.newInstance());
        ran++;
        if (Script.wrong != wrong || Script.made == looked) {
            fail(test + " FAILED: " + section + " says " + Arrays.toString(quotes));
        }
    }
}
