import com.sun.source.tree.AssertTree;
import com.sun.source.tree.ClassTree;
import com.sun.source.tree.CompilationUnitTree;
import com.sun.source.tree.DoWhileLoopTree;
import com.sun.source.tree.ForLoopTree;
import com.sun.source.tree.ImportTree;
import com.sun.source.tree.InstanceOfTree;
import com.sun.source.tree.LambdaExpressionTree;
import com.sun.source.tree.LiteralTree;
import com.sun.source.tree.MemberReferenceTree;
import com.sun.source.tree.MethodInvocationTree;
import com.sun.source.tree.MethodTree;
import com.sun.source.tree.NewArrayTree;
import com.sun.source.tree.NewClassTree;
import com.sun.source.tree.SynchronizedTree;
import com.sun.source.tree.ThrowTree;
import com.sun.source.tree.Tree;
import com.sun.source.tree.TryTree;
import com.sun.source.tree.TypeCastTree;
import com.sun.source.tree.VariableTree;
import com.sun.source.tree.WhileLoopTree;
import com.sun.source.util.JavacTask;
import com.sun.source.util.TreePath;
import com.sun.source.util.TreePathScanner;
import com.sun.source.util.Trees;
import java.io.File;
import java.io.IOException;
import java.util.HashMap;
import java.util.LinkedHashSet;
import java.util.List;
import java.util.Map;
import java.util.Set;
import java.util.TreeSet;
import javax.lang.model.element.Element;
import javax.lang.model.element.Modifier;
import javax.tools.JavaCompiler;
import javax.tools.StandardJavaFileManager;
import javax.tools.ToolProvider;

/** The rules of LANGUAGE.md, as far as the compiler's own tree of the source shows them. */
public final class LanguageTest extends TreePathScanner<Void, Void> {
    private static final Check CHECK = new Check("LanguageTest");
    private static final Set<String> LIBRARY = Set.of("Arrays.fill", "System.arraycopy", "Integer.bitCount", "Math.max", "Math.min");
    private static final Set<String> PLAIN_TYPES = Set.of("int", "long", "boolean", "int[]");
    private static final Set<String> RECURSIVE = Set.of("Planner.tryPlaces", "Planner.tryYears", "BedMaker.tryOthers");

    private final Trees trees;
    private final CompilationUnitTree unit;
    private final Set<String> classes = new TreeSet<>();
    private final Map<String, Set<String>> callsOf = new HashMap<>();

    private LanguageTest(Trees trees, CompilationUnitTree unit) {
        this.trees = trees;
        this.unit = unit;
    }

    public static void main(String[] args) throws IOException {
        JavaCompiler compiler = ToolProvider.getSystemJavaCompiler();
        StandardJavaFileManager files = compiler.getStandardFileManager(null, null, null);
        JavacTask task = (JavacTask) compiler.getTask(null, files, null, List.of("-proc:none"), null,
            files.getJavaFileObjects(new File("src/main/java/TemperNurses.java")));
        CompilationUnitTree unit = task.parse().iterator().next();
        task.analyze();
        LanguageTest test = new LanguageTest(Trees.instance(task), unit);
        test.scan(new TreePath(unit), null);
        test.wholeFile();
        CHECK.end();
    }

    private void wholeFile() {
        CHECK.sentence("rule 11: at most some twelve classes, calls at most eight deep");
        isTrue("classes: " + classes, classes.size() <= 12);
        Set<String> circles = new TreeSet<>();
        for (String method : callsOf.keySet()) {
            isTrue(method + " goes " + depth(method, new LinkedHashSet<>(), circles) + " deep",
                depth(method, new LinkedHashSet<>(), circles) <= 8);
        }
        CHECK.sentence("rule 8: recursion");
        isTrue("methods that come to themselves: " + circles, RECURSIVE.equals(circles));
    }

    /** How deep calls go from a method, one that comes to itself counting once. */
    private int depth(String method, Set<String> open, Set<String> circles) {
        if (!open.add(method)) {
            circles.add(method);
            return 0;
        }
        int deepest = 0;
        for (String called : callsOf.getOrDefault(method, Set.of())) deepest = Math.max(deepest, depth(called, open, circles));
        open.remove(method);
        return deepest + 1;
    }

    @Override
    public Void visitImport(ImportTree tree, Void none) {
        CHECK.sentence("rule 4: the library");
        isTrue(tree.toString(), tree.getQualifiedIdentifier().toString().equals("java.util.Arrays"));
        return null;
    }

    @Override
    public Void visitClass(ClassTree tree, Void none) {
        CHECK.sentence("rule 2: classes inside are static, none is local or anonymous; rule 11: some twenty fields");
        classes.add(tree.getSimpleName().toString());
        boolean outer = getCurrentPath().getParentPath().getLeaf() == unit;
        boolean member = getCurrentPath().getParentPath().getLeaf() instanceof ClassTree;
        Set<Modifier> flags = tree.getModifiers().getFlags();
        isTrue(tree.getSimpleName() + " is final", flags.contains(Modifier.FINAL));
        isTrue(tree.getSimpleName() + " is static", outer || member && flags.contains(Modifier.STATIC));
        long fields = tree.getMembers().stream()
            .filter(m -> m instanceof VariableTree v && !v.getModifiers().getFlags().contains(Modifier.STATIC)).count();
        isTrue(tree.getSimpleName() + " has " + fields + " fields", fields <= 20);
        return super.visitClass(tree, none);
    }

    @Override
    public Void visitMethod(MethodTree tree, Void none) {
        CHECK.sentence("rule 11: seven parameters, some sixty lines");
        isTrue(tree.getName() + " takes few", tree.getParameters().size() <= 7);
        long first = lineOf(trees.getSourcePositions().getStartPosition(unit, tree));
        long last = lineOf(trees.getSourcePositions().getEndPosition(unit, tree));
        isTrue(tree.getName() + " is short", last - first < 60);
        callsOf.putIfAbsent(nameOf(trees.getElement(getCurrentPath())), new TreeSet<>());
        return super.visitMethod(tree, none);
    }

    @Override
    public Void visitVariable(VariableTree tree, Void none) {
        CHECK.sentence("rule 3: types; rule 5: static fields");
        String type = tree.getType().toString();
        isTrue(tree + " is of " + type, PLAIN_TYPES.contains(type) || isOwn(type));
        if (tree.getModifiers().getFlags().contains(Modifier.STATIC)) {
            isTrue(tree + " is final", tree.getModifiers().getFlags().contains(Modifier.FINAL));
            isTrue(tree + " is plain", (type.equals("int") || type.equals("int[]")) && !tree.getInitializer().toString().contains("("));
        }
        return super.visitVariable(tree, none);
    }

    @Override
    public Void visitMethodInvocation(MethodInvocationTree tree, Void none) {
        Element called = trees.getElement(getCurrentPath());
        String name = nameOf(called);
        if (isOwn(name.substring(0, name.indexOf('.')))) {
            callsOf.computeIfAbsent(nameOf(enclosing()), key -> new TreeSet<>()).add(name);
        } else if (!name.equals("Object.<init>")) {
            CHECK.sentence("rule 4: the library");
            isTrue(name, LIBRARY.contains(name));
            isTrue(tree + " is of numbers", !name.equals("Arrays.fill") || called.toString().startsWith("fill(int[]"));
        }
        return super.visitMethodInvocation(tree, none);
    }

    @Override
    public Void visitNewClass(NewClassTree tree, Void none) {
        CHECK.sentence("rule 12: what a run makes is kept small (all is made in constructors)");
        isTrue(tree.toString(), isInConstructor());
        isTrue(tree + " has no body", tree.getClassBody() == null);
        return super.visitNewClass(tree, none);
    }

    @Override
    public Void visitNewArray(NewArrayTree tree, Void none) {
        CHECK.sentence("rule 12: what a run makes is kept small (all is made in constructors)");
        isTrue(tree.toString(), isInConstructor());
        return super.visitNewArray(tree, none);
    }

    @Override
    public Void visitForLoop(ForLoopTree tree, Void none) {
        CHECK.sentence("rule 9: every loop has an end");
        isTrue(tree.toString(), tree.getCondition() != null && !tree.getUpdate().isEmpty());
        return super.visitForLoop(tree, none);
    }

    @Override
    public Void visitWhileLoop(WhileLoopTree tree, Void none) {
        CHECK.sentence("rule 9: every loop has an end");
        isTrue(tree.toString(), tree.getCondition().toString().contains(" < "));
        return super.visitWhileLoop(tree, none);
    }

    @Override
    public Void visitDoWhileLoop(DoWhileLoopTree tree, Void none) {
        return forbidden("rule 9: every loop has an end", tree);
    }

    @Override
    public Void visitLambdaExpression(LambdaExpressionTree tree, Void none) {
        return forbidden("rule 2: no lambda", tree);
    }

    @Override
    public Void visitMemberReference(MemberReferenceTree tree, Void none) {
        return forbidden("rule 2: no method reference", tree);
    }

    @Override
    public Void visitLiteral(LiteralTree tree, Void none) {
        if (tree.getKind() == Tree.Kind.STRING_LITERAL) forbidden("rule 3: this program needs no text", tree);
        return null;
    }

    @Override
    public Void visitThrow(ThrowTree tree, Void none) {
        return forbidden("rule 6: no throw", tree);
    }

    @Override
    public Void visitTry(TryTree tree, Void none) {
        return forbidden("rule 6: no try", tree);
    }

    @Override
    public Void visitSynchronized(SynchronizedTree tree, Void none) {
        return forbidden("rule 6: no synchronized", tree);
    }

    @Override
    public Void visitAssert(AssertTree tree, Void none) {
        return forbidden("rule 6: no assert", tree);
    }

    @Override
    public Void visitInstanceOf(InstanceOfTree tree, Void none) {
        return forbidden("rule 6: this program needs no instanceof", tree);
    }

    @Override
    public Void visitTypeCast(TypeCastTree tree, Void none) {
        return forbidden("rule 6: this program needs no cast", tree);
    }

    private Void forbidden(String rule, Tree tree) {
        CHECK.sentence(rule);
        isTrue(tree.toString(), false);
        return null;
    }

    private long lineOf(long position) {
        return unit.getLineMap().getLineNumber(position);
    }

    private boolean isOwn(String type) {
        return type.equals("TemperNurses") || unit.getTypeDecls().get(0) instanceof ClassTree outer && outer.getMembers().stream()
            .anyMatch(m -> m instanceof ClassTree c && c.getSimpleName().contentEquals(type));
    }

    private static String nameOf(Element method) {
        return method.getEnclosingElement().getSimpleName() + "." + method.getSimpleName();
    }

    private Element enclosing() {
        TreePath path = getCurrentPath();
        while (!(path.getLeaf() instanceof MethodTree)) path = path.getParentPath();
        return trees.getElement(path);
    }

    /** In a constructor, or in a field's initialiser. */
    private boolean isInConstructor() {
        TreePath path = getCurrentPath();
        while (!(path.getLeaf() instanceof MethodTree) && !(path.getLeaf() instanceof ClassTree)) path = path.getParentPath();
        return !(path.getLeaf() instanceof MethodTree method) || method.getName().contentEquals("<init>");
    }

    private static void isTrue(String what, boolean so) {
        CHECK.due(what, so ? 1 : 0, 1);
    }
}
