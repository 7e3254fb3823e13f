import com.sun.source.tree.AnnotationTree;
import com.sun.source.tree.AssertTree;
import com.sun.source.tree.ClassTree;
import com.sun.source.tree.CompilationUnitTree;
import com.sun.source.tree.DoWhileLoopTree;
import com.sun.source.tree.EnhancedForLoopTree;
import com.sun.source.tree.ForLoopTree;
import com.sun.source.tree.LambdaExpressionTree;
import com.sun.source.tree.MemberReferenceTree;
import com.sun.source.tree.MethodInvocationTree;
import com.sun.source.tree.MethodTree;
import com.sun.source.tree.NewArrayTree;
import com.sun.source.tree.NewClassTree;
import com.sun.source.tree.SynchronizedTree;
import com.sun.source.tree.ThrowTree;
import com.sun.source.tree.Tree;
import com.sun.source.tree.TryTree;
import com.sun.source.tree.TypeCastTree;
import com.sun.source.tree.VariableTree;
import com.sun.source.tree.WhileLoopTree;
import com.sun.source.util.JavacTask;
import com.sun.source.util.TreePath;
import com.sun.source.util.TreePathScanner;
import com.sun.source.util.Trees;
import java.io.IOException;
import java.nio.file.Path;
import java.util.HashSet;
import java.util.List;
import java.util.Map;
import java.util.Set;
import java.util.TreeMap;
import java.util.TreeSet;
import javax.lang.model.element.Element;
import javax.lang.model.element.Modifier;
import javax.lang.model.element.TypeElement;
import javax.lang.model.type.ArrayType;
import javax.lang.model.type.TypeKind;
import javax.lang.model.type.TypeMirror;
import javax.tools.JavaCompiler;
import javax.tools.StandardJavaFileManager;
import javax.tools.ToolProvider;

/** The rules of LANGUAGE.md that are seen in the file's tree, as javac makes it; run it from the project's folder. */
public final class RulesTest extends TreePathScanner<Void, Void> {
    private static final Checks CHECKS = new Checks();
    private static final Path SOURCE = Path.of("src/main/java/LawfulLots.java");
    private static final int MOST_LINES = 60;
    private static final int MOST_PARAMETERS = 7;
    private static final int MOST_CLASSES = 12;
    private static final int MOST_FIELDS = 20;
    private static final int DEEPEST = 8;
    // Rule 4, as far as the file makes use of it.
    private static final Set<String> LIBRARY = Set.of("java.util.Arrays.fill", "java.lang.Math.max", "java.lang.Math.min",
        "java.lang.Integer.bitCount", "java.lang.Integer.lowestOneBit");

    private final Trees trees;
    private final CompilationUnitTree unit;
    private final Map<String, Set<String>> calls = new TreeMap<>();
    private final Set<String> publicNames = new TreeSet<>();
    private final Set<String> otherNames = new TreeSet<>();
    private int classes = 0;

    private RulesTest(Trees trees, CompilationUnitTree unit) {
        this.trees = trees;
        this.unit = unit;
    }

    private void never(String what, Tree tree) {
        CHECKS.due(what + ": " + tree, true, false);
    }

    private Element elementHere() {
        return trees.getElement(getCurrentPath());
    }

    private static boolean isOwn(Element element) {
        Element one = element;
        while (one.getEnclosingElement() != null && !(one instanceof TypeElement type && type.getNestingKind().name().equals("TOP_LEVEL"))) {
            one = one.getEnclosingElement();
        }
        return one.getSimpleName().contentEquals("LawfulLots");
    }

    // Rules 1, 2 and 11: classes, their members and their sizes.

    @Override
    public Void visitClass(ClassTree tree, Void none) {
        classes++;
        Element element = elementHere();
        boolean outermost = classes == 1;
        CHECKS.due("rule 2, " + tree.getSimpleName() + " stands in the outermost class", outermost
            || element.getEnclosingElement().getSimpleName().contentEquals("LawfulLots"), true);
        CHECKS.due("rule 1, " + tree.getSimpleName() + " is static", outermost
            || element.getModifiers().contains(Modifier.STATIC), true);
        long fields = tree.getMembers().stream().filter(m -> m instanceof VariableTree v
            && !v.getModifiers().getFlags().contains(Modifier.STATIC)).count();
        CHECKS.due("rule 11, " + tree.getSimpleName() + " has " + fields + " fields", fields <= MOST_FIELDS, true);
        return super.visitClass(tree, none);
    }

    @Override
    public Void visitMethod(MethodTree tree, Void none) {
        Element element = elementHere();
        boolean isPublic = element.getModifiers().contains(Modifier.PUBLIC);
        (isPublic ? publicNames : otherNames).add(tree.getName().toString());
        calls.computeIfAbsent(keyOf(element), k -> new TreeSet<>());
        CHECKS.due("rule 11, parameters of " + tree.getName(), tree.getParameters().size() <= MOST_PARAMETERS, true);
        long lines = lineOf(trees.getSourcePositions().getEndPosition(unit, tree))
            - lineOf(trees.getSourcePositions().getStartPosition(unit, tree)) + 1;
        CHECKS.due("rule 11, " + tree.getName() + " has " + lines + " lines", lines <= MOST_LINES, true);
        return super.visitMethod(tree, none);
    }

    private long lineOf(long position) {
        return unit.getLineMap().getLineNumber(Math.max(0, position));
    }

    // Rules 3 and 5: types and static state.

    @Override
    public Void visitVariable(VariableTree tree, Void none) {
        Element element = elementHere();
        CHECKS.due("rule 3, the type of " + tree, isGood(element.asType()), true);
        if (element.getModifiers().contains(Modifier.STATIC)) {
            CHECKS.due("rule 5, final: " + tree, element.getModifiers().contains(Modifier.FINAL), true);
            boolean written = tree.getInitializer() instanceof NewArrayTree array && array.getInitializers() != null;
            CHECKS.due("rule 5, an array is written out: " + tree, element.asType().getKind() != TypeKind.ARRAY || written, true);
        }
        return super.visitVariable(tree, none);
    }

    private static boolean isGood(TypeMirror type) {
        if (type instanceof ArrayType array) {
            return array.getComponentType().getKind().isPrimitive();
        }
        boolean whole = type.getKind().isPrimitive() && type.getKind() != TypeKind.DOUBLE && type.getKind() != TypeKind.FLOAT;
        return whole || type.toString().startsWith("LawfulLots");
    }

    // Rules 4, 8 and 11: what is called, and how deep.

    @Override
    public Void visitMethodInvocation(MethodInvocationTree tree, Void none) {
        Element called = elementHere();
        if (isOwn(called)) {
            calls.computeIfAbsent(callerKey(), k -> new TreeSet<>()).add(keyOf(called));
        } else if (!called.getSimpleName().contentEquals("<init>")) {
            String name = called.getEnclosingElement() + "." + called.getSimpleName();
            CHECKS.due("rule 4, " + name, LIBRARY.contains(name), true);
        }
        return super.visitMethodInvocation(tree, none);
    }

    private static String keyOf(Element method) {
        return method.getEnclosingElement().getSimpleName() + "." + method;
    }

    private String callerKey() {
        TreePath path = getCurrentPath();
        while (path != null && !(path.getLeaf() instanceof MethodTree)) {
            path = path.getParentPath();
        }
        return path == null ? "none" : keyOf(trees.getElement(path));
    }

    /** The levels from a method down, itself among them; the path tells a call that comes back to itself. */
    private int depthFrom(String method, Set<String> path) {
        if (!path.add(method)) {
            CHECKS.due("rule 8, " + method + " comes back to itself", true, false);
            return 0;
        }
        int deepest = 0;
        for (String next : calls.getOrDefault(method, Set.of())) {
            deepest = Math.max(deepest, depthFrom(next, path));
        }
        path.remove(method);
        return deepest + 1;
    }

    // Rules 2, 6 and 12: what does not stand in the file, and where nothing is made.

    @Override
    public Void visitLambdaExpression(LambdaExpressionTree tree, Void none) {
        never("rule 2, a lambda", tree);
        return super.visitLambdaExpression(tree, none);
    }

    @Override
    public Void visitMemberReference(MemberReferenceTree tree, Void none) {
        never("rule 2, a method reference", tree);
        return super.visitMemberReference(tree, none);
    }

    @Override
    public Void visitThrow(ThrowTree tree, Void none) {
        never("rule 6, throw", tree);
        return super.visitThrow(tree, none);
    }

    @Override
    public Void visitTry(TryTree tree, Void none) {
        never("rule 6, try", tree);
        return super.visitTry(tree, none);
    }

    @Override
    public Void visitSynchronized(SynchronizedTree tree, Void none) {
        never("rule 6, synchronized", tree);
        return super.visitSynchronized(tree, none);
    }

    @Override
    public Void visitAssert(AssertTree tree, Void none) {
        never("rule 6, assert", tree);
        return super.visitAssert(tree, none);
    }

    @Override
    public Void visitAnnotation(AnnotationTree tree, Void none) {
        never("rule 4, an annotation", tree);
        return super.visitAnnotation(tree, none);
    }

    @Override
    public Void visitTypeCast(TypeCastTree tree, Void none) {
        TypeMirror type = trees.getTypeMirror(getCurrentPath());
        CHECKS.due("rule 6, a cast among numbers alone: " + tree, type.getKind().isPrimitive(), true);
        return super.visitTypeCast(tree, none);
    }

    @Override
    public Void visitNewClass(NewClassTree tree, Void none) {
        CHECKS.due("rule 2, a class without a name: " + tree, tree.getClassBody() == null, true);
        CHECKS.due("rule 12, made in a loop: " + tree, isInLoop(), false);
        return super.visitNewClass(tree, none);
    }

    @Override
    public Void visitNewArray(NewArrayTree tree, Void none) {
        CHECKS.due("rule 3, one dimension: " + tree, tree.getDimensions().size() <= 1, true);
        CHECKS.due("rule 12, made in a loop: " + tree, isInLoop(), false);
        return super.visitNewArray(tree, none);
    }

    private boolean isInLoop() {
        for (Tree tree : getCurrentPath()) {
            if (tree instanceof ForLoopTree || tree instanceof WhileLoopTree || tree instanceof DoWhileLoopTree
                || tree instanceof EnhancedForLoopTree) {
                return true;
            }
        }
        return false;
    }

    private void end() {
        CHECKS.due("rule 11, " + classes + " classes", classes <= MOST_CLASSES, true);
        otherNames.retainAll(publicNames);
        otherNames.remove("<init>");
        CHECKS.due("rule 1, names of public methods that others bear: " + otherNames, otherNames.isEmpty(), true);
        for (String method : calls.keySet()) {
            int depth = depthFrom(method, new HashSet<>());
            CHECKS.due("rule 11, calls from " + method + " go " + depth + " deep", depth <= DEEPEST, true);
        }
        CHECKS.due("all methods were seen", calls.size() > publicNames.size(), true);
    }

    public static void main(String[] args) throws IOException {
        JavaCompiler compiler = ToolProvider.getSystemJavaCompiler();
        try (StandardJavaFileManager files = compiler.getStandardFileManager(null, null, null)) {
            JavacTask task = (JavacTask) compiler.getTask(null, files, null, List.of("-proc:none"), null,
                files.getJavaFileObjects(SOURCE));
            CompilationUnitTree unit = task.parse().iterator().next();
            task.analyze();
            RulesTest test = new RulesTest(Trees.instance(task), unit);
            test.scan(unit, null);
            test.end();
        }
        CHECKS.end();
    }
}
