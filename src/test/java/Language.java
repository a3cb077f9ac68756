import com.sun.source.tree.ArrayAccessTree;
import com.sun.source.tree.AssertTree;
import com.sun.source.tree.BinaryTree;
import com.sun.source.tree.ClassTree;
import com.sun.source.tree.CompilationUnitTree;
import com.sun.source.tree.CompoundAssignmentTree;
import com.sun.source.tree.DoWhileLoopTree;
import com.sun.source.tree.ExpressionTree;
import com.sun.source.tree.ForLoopTree;
import com.sun.source.tree.ImportTree;
import com.sun.source.tree.LambdaExpressionTree;
import com.sun.source.tree.LiteralTree;
import com.sun.source.tree.MemberReferenceTree;
import com.sun.source.tree.MethodInvocationTree;
import com.sun.source.tree.MethodTree;
import com.sun.source.tree.NewArrayTree;
import com.sun.source.tree.NewClassTree;
import com.sun.source.tree.SynchronizedTree;
import com.sun.source.tree.ThrowTree;
import com.sun.source.tree.Tree;
import com.sun.source.tree.TryTree;
import com.sun.source.tree.TypeCastTree;
import com.sun.source.tree.VariableTree;
import com.sun.source.tree.WhileLoopTree;
import com.sun.source.util.JavacTask;
import com.sun.source.util.SourcePositions;
import com.sun.source.util.TreePathScanner;
import com.sun.source.util.Trees;
import java.io.IOException;
import java.nio.file.Path;
import java.util.HashMap;
import java.util.HashSet;
import java.util.List;
import java.util.Map;
import java.util.Set;
import java.util.TreeSet;
import javax.lang.model.element.Element;
import javax.lang.model.element.ElementKind;
import javax.lang.model.element.ExecutableElement;
import javax.lang.model.element.Modifier;
import javax.lang.model.element.VariableElement;
import javax.lang.model.type.TypeKind;
import javax.lang.model.type.TypeMirror;
import javax.tools.JavaCompiler;
import javax.tools.StandardJavaFileManager;
import javax.tools.ToolProvider;

/** The rules of LANGUAGE.md that can be told from the program's tree, each by its number. */
final class Language extends TreePathScanner<Void, Void> {
    private static final Path PROGRAM = Path.of("src/main/java/FrequencyShelf.java");
    private static final int MOST_LINES = 60, MOST_PARAMETERS = 7, MOST_DEEP = 8, MOST_CLASSES = 12, MOST_FIELDS = 20;
    /** Of the library that rule 4 allows, what the program uses; it may be made longer within that rule. */
    private static final Set<String> LIBRARY = Set.of("append(char)", "append(java.lang.String)", "append(int)",
            "charAt(int)", "length()", "min(int,int)", "max(int,int)",
            "arraycopy(java.lang.Object,int,java.lang.Object,int,int)");
    private static final Set<String> LIBRARY_CLASSES = Set.of("java.lang.String", "java.lang.StringBuilder",
            "java.lang.AbstractStringBuilder", "java.lang.Math", "java.lang.System");

    private final Trees trees;
    private final SourcePositions positions;
    private final CompilationUnitTree unit;
    private final Map<Element, Set<Element>> callsOf = new HashMap<>();
    private final Map<Element, Integer> depths = new HashMap<>();
    private final Set<Element> open = new HashSet<>();
    private final Set<String> faceNames = new TreeSet<>();
    private Element method = null;
    private int classes = 0;
    private int loops = 0;
    private int looked = 0;
    private int wrong = 0;

    private Language(Trees trees, CompilationUnitTree unit) {
        this.trees = trees;
        this.positions = trees.getSourcePositions();
        this.unit = unit;
    }

    public static void main(String[] args) throws IOException {
        JavaCompiler compiler = ToolProvider.getSystemJavaCompiler();
        try (StandardJavaFileManager files = compiler.getStandardFileManager(null, null, null)) {
            JavacTask task = (JavacTask) compiler.getTask(null, files, null, List.of("-proc:none"), null,
                    files.getJavaFileObjects(PROGRAM));
            CompilationUnitTree unit = task.parse().iterator().next();
            task.analyze();
            Language language = new Language(Trees.instance(task), unit);
            language.readAll();
            System.out.println(language.looked + " places looked at, " + language.wrong + " outside the rules");
            if (language.wrong != 0 || language.looked == 0) {
                System.exit(1);
            }
        }
    }

    private void readAll() {
        must(1, unit, unit.getPackageName() == null, "a package line");
        must(1, unit, unit.getTypeDecls().size() == 1, "more than one class of the file");
        for (Element member : trees.getElement(trees.getPath(unit, unit.getTypeDecls().get(0))).getEnclosedElements()) {
            if (member.getKind() == ElementKind.METHOD && member.getModifiers().contains(Modifier.PUBLIC)) {
                faceNames.add(member.getSimpleName().toString());
            }
        }
        scan(unit, null);
        must(11, unit, classes <= MOST_CLASSES, classes + " classes");
        for (Element one : callsOf.keySet()) {
            must(11, unit, depth(one) <= MOST_DEEP, one + " stands above calls " + depth(one) + " deep");
        }
    }

    private void must(int rule, Tree where, boolean holds, String what) {
        looked++;
        if (!holds) {
            wrong++;
            System.out.println("rule " + rule + ", line " + lineOf(where) + ": " + what);
        }
    }

    private long lineOf(Tree where) {
        return unit.getLineMap().getLineNumber(Math.max(0, positions.getStartPosition(unit, where)));
    }

    /** How many calls stand open at most, this one the first; a call that comes back to itself is told as far too many. */
    private int depth(Element one) {
        if (!open.add(one)) {
            return 1000;
        }
        Integer known = depths.get(one);
        int most = 0;
        if (known == null) {
            for (Element called : callsOf.getOrDefault(one, Set.of())) {
                most = Math.max(most, depth(called));
            }
            depths.put(one, most + 1);
        }
        open.remove(one);
        return depths.get(one);
    }

    private Element here() {
        return trees.getElement(getCurrentPath());
    }

    @Override
    public Void visitImport(ImportTree node, Void none) {
        must(4, node, node.getQualifiedIdentifier().toString().matches("java\\.util\\.(ArrayList|List|Arrays|Iterator)"),
                "imports " + node.getQualifiedIdentifier());
        return super.visitImport(node, none);
    }

    @Override
    public Void visitClass(ClassTree node, Void none) {
        classes++;
        Element one = here();
        boolean inside = one.getEnclosingElement().getKind() == ElementKind.CLASS;
        must(1, node, one.getModifiers().contains(Modifier.PUBLIC) != inside, "public, or the face is not");
        must(1, node, one.getModifiers().contains(Modifier.FINAL) || inside, "the face is not final");
        must(2, node, !inside || one.getModifiers().contains(Modifier.STATIC), "a class inside that is not static");
        must(2, node, !node.getSimpleName().toString().isEmpty(), "a class without a name");
        long fields = one.getEnclosedElements().stream().filter(e -> e.getKind() == ElementKind.FIELD)
                .filter(e -> !e.getModifiers().contains(Modifier.STATIC)).count();
        must(11, node, fields <= MOST_FIELDS, fields + " fields");
        return super.visitClass(node, none);
    }

    @Override
    public Void visitMethod(MethodTree node, Void none) {
        ExecutableElement one = (ExecutableElement) here();
        long lines = unit.getLineMap().getLineNumber(positions.getEndPosition(unit, node)) - lineOf(node);
        must(11, node, lines <= MOST_LINES, node.getName() + " has " + lines + " lines");
        must(11, node, node.getParameters().size() <= MOST_PARAMETERS, node.getName() + " has too many parameters");
        must(1, node, !one.getModifiers().contains(Modifier.PRIVATE)
                || !faceNames.contains(node.getName().toString()), node.getName() + " bears the name of a public one");
        must(6, node, node.getThrows().isEmpty(), "throws");
        must(6, node, !node.getName().toString().matches("equals|hashCode|toString"), node.getName().toString());
        must(3, node, isAllowed(one.getReturnType()), "answers " + one.getReturnType());
        method = one;
        callsOf.putIfAbsent(one, new HashSet<>());
        super.visitMethod(node, none);
        method = null;
        return null;
    }

    @Override
    public Void visitVariable(VariableTree node, Void none) {
        VariableElement one = (VariableElement) here();
        must(3, node, isAllowed(one.asType()), one + " is a " + one.asType());
        if (one.getModifiers().contains(Modifier.STATIC)) {
            must(5, node, one.getModifiers().contains(Modifier.FINAL), one + " is not final");
            must(5, node, one.getConstantValue() != null || node.getInitializer() instanceof NewArrayTree,
                    one + " is no constant");
        }
        return super.visitVariable(node, none);
    }

    private static boolean isAllowed(TypeMirror type) {
        String name = type.toString();
        return type.getKind() == TypeKind.VOID || name.matches("(int|long|char|boolean)(\\[\\]){0,2}")
                || name.matches("FrequencyShelf\\.\\w+|java\\.lang\\.(String|StringBuilder)");
    }

    @Override
    public Void visitMethodInvocation(MethodInvocationTree node, Void none) {
        ExecutableElement called = (ExecutableElement) here();
        String owner = called.getEnclosingElement().toString();
        if (owner.startsWith("FrequencyShelf")) {
            callsOf.computeIfAbsent(method, key -> new HashSet<>()).add(called);
        } else if (!called.getSimpleName().contentEquals("<init>")) {
            must(4, node, LIBRARY_CLASSES.contains(owner) && LIBRARY.contains(called.toString()),
                    "calls " + owner + "." + called);
        }
        return super.visitMethodInvocation(node, none);
    }

    @Override
    public Void visitNewClass(NewClassTree node, Void none) {
        Element made = here();
        String owner = made.getEnclosingElement().toString();
        must(4, node, owner.startsWith("FrequencyShelf.") || owner.equals("java.lang.StringBuilder"), "makes " + owner);
        must(12, node, loops == 0, "makes an object in a loop");
        if (method != null) {
            callsOf.computeIfAbsent(method, key -> new HashSet<>()).add(made);
        }
        return super.visitNewClass(node, none);
    }

    @Override
    public Void visitNewArray(NewArrayTree node, Void none) {
        must(12, node, loops == 0, "makes an array in a loop");
        return super.visitNewArray(node, none);
    }

    @Override
    public Void visitForLoop(ForLoopTree node, Void none) {
        must(9, node, node.getCondition() != null && !(node.getCondition() instanceof LiteralTree), "a loop without end");
        must(9, node, node.getUpdate().size() == 1, "a loop that does not count");
        loops++;
        super.visitForLoop(node, none);
        loops--;
        return null;
    }

    @Override
    public Void visitWhileLoop(WhileLoopTree node, Void none) {
        must(9, node, false, "a while loop, whose end its own lines do not show");
        return super.visitWhileLoop(node, none);
    }

    @Override
    public Void visitDoWhileLoop(DoWhileLoopTree node, Void none) {
        must(9, node, false, "a do loop, whose end its own lines do not show");
        return super.visitDoWhileLoop(node, none);
    }

    private void mustNotBeZero(Tree where, Tree.Kind kind, ExpressionTree divisor) {
        if (kind.name().startsWith("DIVIDE") || kind.name().startsWith("REMAINDER")) {
            Element named = trees.getElement(trees.getPath(unit, divisor));
            boolean constant = divisor instanceof LiteralTree
                    || named instanceof VariableElement && ((VariableElement) named).getConstantValue() != null;
            must(7, where, constant, "divides by what may be 0");
        }
    }

    @Override
    public Void visitBinary(BinaryTree node, Void none) {
        mustNotBeZero(node, node.getKind(), node.getRightOperand());
        return super.visitBinary(node, none);
    }

    @Override
    public Void visitCompoundAssignment(CompoundAssignmentTree node, Void none) {
        mustNotBeZero(node, node.getKind(), node.getExpression());
        return super.visitCompoundAssignment(node, none);
    }

    /** Each array is looked into within its length: the method that does so speaks of that length. */
    @Override
    public Void visitArrayAccess(ArrayAccessTree node, Void none) {
        String text = trees.getTree((ExecutableElement) method).toString();
        must(7, node, text.contains(node.getExpression() + ".length"), node + " is not looked at before it is used");
        return super.visitArrayAccess(node, none);
    }

    @Override
    public Void visitTypeCast(TypeCastTree node, Void none) {
        must(6, node, node.getType().toString().equals("char"), "a cast to " + node.getType());
        return super.visitTypeCast(node, none);
    }

    @Override
    public Void visitThrow(ThrowTree node, Void none) {
        must(6, node, false, "throw");
        return super.visitThrow(node, none);
    }

    @Override
    public Void visitTry(TryTree node, Void none) {
        must(6, node, false, "try");
        return super.visitTry(node, none);
    }

    @Override
    public Void visitSynchronized(SynchronizedTree node, Void none) {
        must(6, node, false, "synchronized");
        return super.visitSynchronized(node, none);
    }

    @Override
    public Void visitAssert(AssertTree node, Void none) {
        must(6, node, false, "assert");
        return super.visitAssert(node, none);
    }

    @Override
    public Void visitLambdaExpression(LambdaExpressionTree node, Void none) {
        must(2, node, false, "a lambda");
        return super.visitLambdaExpression(node, none);
    }

    @Override
    public Void visitMemberReference(MemberReferenceTree node, Void none) {
        must(2, node, false, "a method reference");
        return super.visitMemberReference(node, none);
    }
}
