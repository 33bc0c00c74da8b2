import com.sun.source.tree.ClassTree;
import com.sun.source.tree.CompilationUnitTree;
import com.sun.source.tree.ExpressionTree;
import com.sun.source.tree.ImportTree;
import com.sun.source.tree.LineMap;
import com.sun.source.tree.MethodInvocationTree;
import com.sun.source.tree.MethodTree;
import com.sun.source.tree.NewArrayTree;
import com.sun.source.tree.NewClassTree;
import com.sun.source.tree.Tree;
import com.sun.source.tree.Tree.Kind;
import com.sun.source.tree.VariableTree;
import com.sun.source.util.JavacTask;
import com.sun.source.util.TreePathScanner;
import com.sun.source.util.Trees;
import java.nio.file.Path;
import java.util.ArrayDeque;
import java.util.Deque;
import java.util.EnumSet;
import java.util.HashMap;
import java.util.LinkedHashSet;
import java.util.List;
import java.util.Map;
import java.util.Set;
import javax.lang.model.element.Element;
import javax.lang.model.element.ElementKind;
import javax.lang.model.element.Modifier;
import javax.tools.JavaCompiler;
import javax.tools.StandardJavaFileManager;
import javax.tools.ToolProvider;

/** What of LANGUAGE.md can be seen in the tree that the compiler makes of the source. */
public final class LanguageTest extends TreePathScanner<Void, Void> {
    private static final Set<String> LIBRARY = Set.of("java.lang.Math.max(int,int)",
            "java.lang.Math.min(long,long)", "java.util.Arrays.fill(int[],int)",
            "java.util.Arrays.fill(long[],long)",
            "java.lang.System.arraycopy(java.lang.Object,int,java.lang.Object,int,int)",
            "java.lang.Object.Object()");
    /** What the class has no need of, though LANGUAGE.md allows some of it. */
    private static final Set<Kind> LEFT_OUT = EnumSet.of(Kind.LAMBDA_EXPRESSION,
            Kind.MEMBER_REFERENCE, Kind.TRY, Kind.CATCH, Kind.THROW, Kind.SYNCHRONIZED, Kind.ASSERT,
            Kind.INSTANCE_OF, Kind.STRING_LITERAL, Kind.DO_WHILE_LOOP, Kind.ANNOTATION);
    private static final int MOST_LINES = 60, MOST_CLASSES = 12, MOST_FIELDS = 20;
    /** The rule says eight; one less, for the caller of the face may be counted, too. */
    private static final int MOST_DEEP = 7;

    private final Trees trees;
    private final LineMap lines;
    private final CompilationUnitTree unit;
    private final Map<Element, Set<Element>> calls = new HashMap<>();
    private final Deque<Element> open = new ArrayDeque<>();
    private int classes = 0;

    private LanguageTest(Trees trees, CompilationUnitTree unit) {
        this.trees = trees;
        this.unit = unit;
        this.lines = unit.getLineMap();
    }

    public static void main(String[] args) throws Exception {
        Path source = Path.of(System.getProperty("source", "src/main/java/TollWays.java"));
        JavaCompiler compiler = ToolProvider.getSystemJavaCompiler();
        try (StandardJavaFileManager files = compiler.getStandardFileManager(null, null, null)) {
            JavacTask task = (JavacTask) compiler.getTask(null, files, null, List.of(), null,
                    files.getJavaFileObjects(source));
            CompilationUnitTree unit = task.parse().iterator().next();
            task.analyze();
            LanguageTest test = new LanguageTest(Trees.instance(task), unit);
            test.scan(unit, null);
            test.checkAll();
        }
        Check.finish();
    }

    private void checkAll() {
        Check.that("no package line", unit.getPackageName() == null);
        Check.that("one class of the file", unit.getTypeDecls().size() == 1);
        for (ImportTree line : unit.getImports()) {
            Check.same("rule 4: imports", "java.util.Arrays", line.getQualifiedIdentifier().toString());
        }
        Check.that(classes + " classes", classes <= MOST_CLASSES);
        Check.that("methods were found", calls.size() > 44);
        for (Element method : calls.keySet()) {
            int deep = depthOf(method, new LinkedHashSet<>());
            Check.that("rule 11: " + method + " goes " + deep + " deep", deep <= MOST_DEEP);
        }
    }

    /** How many calls are open at once below a method, its own with them. */
    private int depthOf(Element method, Set<Element> above) {
        Check.that("rule 8: no recursion of " + method, !above.contains(method));
        if (above.contains(method)) {
            return 0;
        }
        above.add(method);
        int deepest = 0;
        for (Element called : calls.getOrDefault(method, Set.of())) {
            deepest = Math.max(deepest, depthOf(called, above));
        }
        above.remove(method);
        return deepest + 1;
    }

    @Override
    public Void scan(Tree tree, Void none) {
        if (tree != null) {
            Check.that("line " + lineOf(tree) + " is without " + tree.getKind(),
                    !LEFT_OUT.contains(tree.getKind()));
        }
        return super.scan(tree, none);
    }

    @Override
    public Void visitClass(ClassTree tree, Void none) {
        classes++;
        int fields = 0;
        for (Tree member : tree.getMembers()) {
            if (member instanceof VariableTree) {
                Set<Modifier> modifiers = ((VariableTree) member).getModifiers().getFlags();
                boolean isStatic = modifiers.contains(Modifier.STATIC);
                fields += isStatic ? 0 : 1;
                Check.that("rule 5: line " + lineOf(member) + " is final",
                        !isStatic || modifiers.contains(Modifier.FINAL));
            }
            Check.that("rule 5: no block of a class, line " + lineOf(member),
                    member.getKind() != Kind.BLOCK);
        }
        Check.that(tree.getSimpleName() + " has " + fields + " fields", fields <= MOST_FIELDS);
        return super.visitClass(tree, none);
    }

    @Override
    public Void visitMethod(MethodTree tree, Void none) {
        Element method = trees.getElement(getCurrentPath());
        long first = lineOf(tree);
        long last = lines.getLineNumber(trees.getSourcePositions().getEndPosition(unit, tree));
        Check.that("rule 11: " + method + " is short", last - first < MOST_LINES);
        Check.that("rule 11: parameters of " + method, tree.getParameters().size() <= 7);
        calls.put(method, new LinkedHashSet<>());
        open.push(method);
        super.visitMethod(tree, none);
        open.pop();
        return null;
    }

    @Override
    public Void visitMethodInvocation(MethodInvocationTree tree, Void none) {
        noteCall(tree);
        return super.visitMethodInvocation(tree, none);
    }

    @Override
    public Void visitNewClass(NewClassTree tree, Void none) {
        Check.that("no class without a name, line " + lineOf(tree), tree.getClassBody() == null);
        checkMade(tree);
        noteCall(tree);
        return super.visitNewClass(tree, none);
    }

    @Override
    public Void visitNewArray(NewArrayTree tree, Void none) {
        checkMade(tree);
        return super.visitNewArray(tree, none);
    }

    /** The room is one for all calls: behind constructors only a road told is made. */
    private void checkMade(Tree tree) {
        boolean isInMethod = !open.isEmpty() && open.peek().getKind() == ElementKind.METHOD;
        boolean isRoad = tree.toString().startsWith("new Road(");
        Check.that("rule 12: nothing but a road is made, line " + lineOf(tree), !isInMethod || isRoad);
    }

    private void noteCall(ExpressionTree tree) {
        Element called = trees.getElement(getCurrentPath());
        String name = called.getEnclosingElement() + "." + called;
        if (name.startsWith("TollWays")) {
            if (!open.isEmpty()) {
                calls.get(open.peek()).add(called);
            }
        } else {
            Check.that("rule 4: line " + lineOf(tree) + " calls " + name, LIBRARY.contains(name));
        }
    }

    private long lineOf(Tree tree) {
        return lines.getLineNumber(trees.getSourcePositions().getStartPosition(unit, tree));
    }
}
