import com.sun.source.tree.ClassTree;
import com.sun.source.tree.CompilationUnitTree;
import com.sun.source.tree.LineMap;
import com.sun.source.tree.MethodInvocationTree;
import com.sun.source.tree.MethodTree;
import com.sun.source.tree.NewArrayTree;
import com.sun.source.tree.NewClassTree;
import com.sun.source.tree.ThrowTree;
import com.sun.source.tree.Tree;
import com.sun.source.tree.VariableTree;
import com.sun.source.util.JavacTask;
import com.sun.source.util.SourcePositions;
import com.sun.source.util.TreePathScanner;
import com.sun.source.util.Trees;
import java.io.IOException;
import java.nio.file.Path;
import java.util.EnumSet;
import java.util.HashMap;
import java.util.Map;
import java.util.Set;
import java.util.TreeMap;
import java.util.TreeSet;
import javax.lang.model.element.Element;
import javax.lang.model.element.Modifier;
import javax.tools.JavaCompiler;
import javax.tools.StandardJavaFileManager;
import javax.tools.ToolProvider;

/** The program's source keeps to those rules of LANGUAGE.md that can be seen in its tree. */
public final class FormTest extends TreePathScanner<Void, Void> {
    private static final Path PROGRAM = Path.of("src/main/java/DeltaHistory.java");
    private static final Checks CHECKS = new Checks();
    private static final Set<Tree.Kind> RULED_OUT = Set.of(Tree.Kind.LAMBDA_EXPRESSION, Tree.Kind.MEMBER_REFERENCE,
        Tree.Kind.SYNCHRONIZED, Tree.Kind.ASSERT, Tree.Kind.PACKAGE);
    private static final Set<String> TYPES = Set.of("int", "boolean", "int[]", "int[][]");
    private static final Set<String> THROWN = Set.of("IndexOutOfBoundsException", "IllegalStateException",
        "IllegalArgumentException", "UnsupportedOperationException");
    private static final Set<String> LIBRARY = Set.of("java.lang.System.arraycopy", "java.lang.Math.max");

    private final Trees trees;
    private final CompilationUnitTree unit;
    private final Map<String, Set<String>> calls = new TreeMap<>();
    private final Set<Tree.Kind> kinds = EnumSet.noneOf(Tree.Kind.class);
    private final Set<String> classes = new TreeSet<>();
    private final Set<String> types = new TreeSet<>();
    private MethodTree method;

    private FormTest(Trees trees, CompilationUnitTree unit) {
        this.trees = trees;
        this.unit = unit;
    }

    public static void main(String[] args) throws IOException {
        JavaCompiler compiler = ToolProvider.getSystemJavaCompiler();
        try (StandardJavaFileManager files = compiler.getStandardFileManager(null, null, null)) {
            JavacTask task = (JavacTask) compiler.getTask(null, files, null, null, null,
                files.getJavaFileObjects(PROGRAM));
            CompilationUnitTree unit = task.parse().iterator().next();
            task.analyze();
            FormTest test = new FormTest(Trees.instance(task), unit);
            test.scan(unit, null);
            test.looksAtAll();
        }
        CHECKS.end();
    }

    private void looksAtAll() {
        CHECKS.says("rules 2 and 6: no lambda, no method reference, no synchronized, assert; without a package line");
        for (Tree.Kind each : RULED_OUT) {
            holds(each.toString(), !kinds.contains(each));
        }
        CHECKS.says("rule 11: the file has at most some twelve classes");
        holds(classes.toString(), classes.size() <= 12);
        CHECKS.says("rule 3: numbers, own classes, and arrays of these, of two dimensions only of numbers");
        for (String each : types) {
            holds(each, TYPES.contains(each) || classes.contains(each.replaceFirst("\\[\\]$", "")));
        }
        CHECKS.says("rule 11: calls that are no recursion go at most eight deep");
        for (String name : calls.keySet()) {
            int depth = depth(name, new HashMap<>());
            holds(name + " goes " + depth + " deep", depth <= 8);
        }
    }

    private static void holds(String what, boolean isSo) {
        CHECKS.due(what, true, () -> isSo);
    }

    /** How many calls stand open at once at most; a method that comes back to itself is too deep. */
    private int depth(String name, Map<String, Integer> known) {
        if (!known.containsKey(name)) {
            known.put(name, 1000);
            int deepest = 0;
            for (String callee : calls.getOrDefault(name, Set.of())) {
                deepest = Math.max(deepest, depth(callee, known));
            }
            known.put(name, deepest + 1);
        }
        return known.get(name);
    }

    private Set<String> callsOf(MethodTree caller) {
        return calls.computeIfAbsent(nameOf(trees.getElement(trees.getPath(unit, caller))), name -> new TreeSet<>());
    }

    private static String nameOf(Element element) {
        return element.getEnclosingElement() + "." + element.getSimpleName();
    }

    @Override
    public Void scan(Tree tree, Void none) {
        if (tree != null) {
            kinds.add(tree.getKind());
        }
        return super.scan(tree, none);
    }

    @Override
    public Void visitClass(ClassTree tree, Void none) {
        classes.add(tree.getSimpleName().toString());
        CHECKS.says("rule 2: no local class, and nothing is derived");
        holds(tree.getSimpleName() + " stands in no method", method == null);
        holds(tree.getSimpleName() + " is final", tree.getModifiers().getFlags().contains(Modifier.FINAL));
        CHECKS.says("rule 11: a class some twenty fields beside its constants");
        long fields = tree.getMembers().stream().filter(member -> member instanceof VariableTree field
            && !field.getModifiers().getFlags().contains(Modifier.STATIC)).count();
        holds(tree.getSimpleName() + " has " + fields + " fields", fields <= 20);
        CHECKS.says("rule 5: no static initialiser block");
        holds(tree.getSimpleName() + " has none",
            tree.getMembers().stream().noneMatch(member -> member.getKind() == Tree.Kind.BLOCK));
        return super.visitClass(tree, none);
    }

    @Override
    public Void visitMethod(MethodTree tree, Void none) {
        method = tree;
        callsOf(tree);
        CHECKS.says("rule 11: a method takes at most seven parameters; methods stay short (some sixty lines)");
        holds(tree.getName() + " has " + tree.getParameters().size() + " parameters",
            tree.getParameters().size() <= 7);
        SourcePositions places = trees.getSourcePositions();
        LineMap lines = unit.getLineMap();
        long length = lines.getLineNumber(Math.max(0, places.getEndPosition(unit, tree)))
            - lines.getLineNumber(Math.max(0, places.getStartPosition(unit, tree))) + 1;
        holds(tree.getName() + " has " + length + " lines", length <= 60);
        super.visitMethod(tree, none);
        method = null;
        return null;
    }

    @Override
    public Void visitVariable(VariableTree tree, Void none) {
        types.add(tree.getType().toString());
        Set<Modifier> flags = tree.getModifiers().getFlags();
        if (flags.contains(Modifier.STATIC)) {
            CHECKS.says("rule 5: static fields are final: constants");
            holds(tree.toString(), flags.contains(Modifier.FINAL) && tree.getType().toString().equals("int"));
        }
        return super.visitVariable(tree, none);
    }

    @Override
    public Void visitMethodInvocation(MethodInvocationTree tree, Void none) {
        Element callee = trees.getElement(getCurrentPath());
        String name = nameOf(callee);
        boolean isOwn = callee.getEnclosingElement().toString().startsWith("DeltaHistory");
        boolean isSuper = callee.getSimpleName().contentEquals("<init>");
        if (method != null) {
            callsOf(method).add(name);
        }
        CHECKS.says("rule 4: the library: only what stands here");
        holds(name, isOwn || isSuper || LIBRARY.contains(name));
        return super.visitMethodInvocation(tree, none);
    }

    @Override
    public Void visitThrow(ThrowTree tree, Void none) {
        CHECKS.says("rule 6: throw new E(), and no throw in a constructor");
        boolean isPlain = tree.getExpression() instanceof NewClassTree made && made.getArguments().isEmpty()
            && THROWN.contains(made.getIdentifier().toString());
        holds(tree.toString(), isPlain && method != null && method.getReturnType() != null);
        return super.visitThrow(tree, none);
    }

    @Override
    public Void visitNewClass(NewClassTree tree, Void none) {
        boolean isThrown = getCurrentPath().getParentPath().getLeaf() instanceof ThrowTree;
        CHECKS.says("rule 12: keep it small: no call makes an object, but for the exceptions that it throws");
        holds(tree.toString(), isThrown || isMadeWithTheObject());
        return super.visitNewClass(tree, none);
    }

    @Override
    public Void visitNewArray(NewArrayTree tree, Void none) {
        CHECKS.says("rule 12: keep it small: no call makes a row");
        holds(tree.toString(), isMadeWithTheObject());
        return super.visitNewArray(tree, none);
    }

    /** In a field's initialiser or in a constructor. */
    private boolean isMadeWithTheObject() {
        return method == null || method.getReturnType() == null;
    }
}
