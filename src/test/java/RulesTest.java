import com.sun.source.tree.ArrayAccessTree;
import com.sun.source.tree.BinaryTree;
import com.sun.source.tree.ClassTree;
import com.sun.source.tree.CompilationUnitTree;
import com.sun.source.tree.MethodInvocationTree;
import com.sun.source.tree.MethodTree;
import com.sun.source.tree.NewClassTree;
import com.sun.source.tree.Tree;
import com.sun.source.tree.TypeCastTree;
import com.sun.source.tree.VariableTree;
import com.sun.source.util.JavacTask;
import com.sun.source.util.TreePathScanner;
import com.sun.source.util.Trees;
import java.nio.file.Path;
import java.util.HashMap;
import java.util.HashSet;
import java.util.List;
import java.util.Map;
import java.util.Set;
import java.util.TreeSet;
import javax.lang.model.element.Element;
import javax.lang.model.element.Modifier;
import javax.tools.JavaCompiler;
import javax.tools.StandardJavaFileManager;
import javax.tools.ToolProvider;

/** Those rules of LANGUAGE.md that can be seen in what the compiler reads: types, library, depth, indices, divisors. */
public final class RulesTest extends TreePathScanner<Void, Void> {
    private static final Set<String> LIBRARY = Set.of("Arrays.fill", "Arrays.copyOf", "Arrays.copyOfRange",
        "System.arraycopy", "Math.min", "Math.max", "Math.abs", "Integer.bitCount", "Long.bitCount");
    private static final Set<String> TYPES = Set.of("int", "long", "short", "byte", "char", "boolean", "void",
        "int[]", "long[]", "short[]", "byte[]", "char[]");
    private static final Set<Tree.Kind> BARRED = Set.of(Tree.Kind.LAMBDA_EXPRESSION, Tree.Kind.MEMBER_REFERENCE,
        Tree.Kind.TRY, Tree.Kind.THROW, Tree.Kind.SYNCHRONIZED, Tree.Kind.ASSERT, Tree.Kind.INSTANCE_OF,
        Tree.Kind.ANNOTATION, Tree.Kind.STRING_LITERAL, Tree.Kind.FLOAT_LITERAL, Tree.Kind.DOUBLE_LITERAL,
        Tree.Kind.SWITCH_EXPRESSION, Tree.Kind.WHILE_LOOP, Tree.Kind.DO_WHILE_LOOP);
    private static final int DEEPEST = 8, MOST_CLASSES = 12, MOST_LINES = 60;

    private final Map<Element, Set<Element>> calls = new HashMap<>();
    private final Map<Element, Integer> depths = new HashMap<>();
    private final Set<String> classes = new TreeSet<>();
    private final Set<Element> own = new HashSet<>();
    private Trees trees;
    private Element caller;
    private String body = "";

    public static void main(String[] args) throws Exception {
        new RulesTest().looks();
        Due.end();
    }

    private void looks() throws Exception {
        JavaCompiler compiler = ToolProvider.getSystemJavaCompiler();
        try (StandardJavaFileManager files = compiler.getStandardFileManager(null, null, null)) {
            JavacTask task = (JavacTask) compiler.getTask(null, files, null, List.of("-proc:none"), null,
                files.getJavaFileObjects(Path.of("src/main/java/PinAtlas.java")));
            trees = Trees.instance(task);
            Iterable<? extends CompilationUnitTree> units = task.parse();
            task.analyze();
            for (CompilationUnitTree unit : units) {
                new Names().scan(unit, null);
                scan(unit, null);
            }
        }
        Due.is("rule 11: few classes", classes.size() <= MOST_CLASSES ? 1 : 0, 1);
        for (Element e : own) {
            Due.is("rule 11: calls from " + e + " go " + depth(e, 0) + " deep", depth(e, 0) <= DEEPEST ? 1 : 0, 1);
        }
    }

    /** A call that is open within itself has no depth: it is told as far too deep. */
    private int depth(Element e, int open) {
        Integer known = depths.get(e);
        if (known != null || open > 100) {
            return known == null ? 1000 : known;
        }
        int deepest = 0;
        for (Element c : calls.getOrDefault(e, Set.of())) {
            deepest = Math.max(deepest, depth(c, open + 1));
        }
        depths.put(e, deepest + 1);
        return deepest + 1;
    }

    private final class Names extends TreePathScanner<Void, Void> {
        @Override
        public Void visitClass(ClassTree c, Void v) {
            classes.add(c.getSimpleName().toString());
            return super.visitClass(c, v);
        }

        @Override
        public Void visitMethod(MethodTree m, Void v) {
            own.add(trees.getElement(getCurrentPath()));
            return super.visitMethod(m, v);
        }
    }

    @Override
    public Void scan(Tree t, Void v) {
        if (t != null) {
            Due.is(here() + "no rule bars " + t.getKind(), BARRED.contains(t.getKind()) ? 1 : 0, 0);
        }
        return super.scan(t, v);
    }

    @Override
    public Void visitMethod(MethodTree m, Void v) {
        caller = trees.getElement(getCurrentPath());
        body = m.toString();
        Due.is(here() + "rule 11: short", body.split("\n").length <= MOST_LINES ? 1 : 0, 1);
        Due.is(here() + "rule 11: few parameters", m.getParameters().size() <= 7 ? 1 : 0, 1);
        isAType(m.getReturnType());
        super.visitMethod(m, v);
        caller = null;
        body = "";
        return null;
    }

    @Override
    public Void visitVariable(VariableTree x, Void v) {
        isAType(x.getType());
        Set<Modifier> flags = x.getModifiers().getFlags();
        boolean loose = flags.contains(Modifier.STATIC) && !flags.contains(Modifier.FINAL);
        Due.is(here() + "rule 5: " + x.getName() + " is static and not final", loose ? 1 : 0, 0);
        return super.visitVariable(x, v);
    }

    private void isAType(Tree type) {
        String name = String.valueOf(type);
        boolean fits = type == null || TYPES.contains(name) || classes.contains(name.replaceFirst("\\[\\]$", ""));
        Due.is(here() + "rule 3: a type " + name, fits ? 1 : 0, 1);
    }

    @Override
    public Void visitMethodInvocation(MethodInvocationTree call, Void v) {
        Element to = trees.getElement(getCurrentPath());
        String name = to.getEnclosingElement().getSimpleName() + "." + to.getSimpleName();
        boolean isNothing = name.equals("Object.<init>");
        Due.is(here() + "rule 4: " + name, own.contains(to) || isNothing || LIBRARY.contains(name) ? 1 : 0, 1);
        leadsTo(to);
        return super.visitMethodInvocation(call, v);
    }

    @Override
    public Void visitNewClass(NewClassTree made, Void v) {
        Element to = trees.getElement(getCurrentPath());
        Due.is(here() + "rule 4: " + made, own.contains(to) ? 1 : 0, 1);
        Due.is(here() + "made by a constructor alone", caller == null || caller.getSimpleName().contentEquals("<init>") ? 1 : 0, 1);
        leadsTo(to);
        return super.visitNewClass(made, v);
    }

    private void leadsTo(Element to) {
        if (caller != null) {
            calls.computeIfAbsent(caller, k -> new HashSet<>()).add(to);
        }
    }

    @Override
    public Void visitTypeCast(TypeCastTree cast, Void v) {
        Due.is(here() + "rule 6: a cast of numbers, " + cast, TYPES.contains(cast.getType().toString()) ? 1 : 0, 1);
        return super.visitTypeCast(cast, v);
    }

    @Override
    public Void visitArrayAccess(ArrayAccessTree a, Void v) {
        String test = a.getIndex() + " < " + a.getExpression() + ".length";
        String least = a.getIndex() + " >= 0";
        String start = "int " + a.getIndex() + " = 0;";
        Due.is(here() + "rule 7: " + a + " stands behind " + test, body.contains(test) ? 1 : 0, 1);
        Due.is(here() + "rule 7: " + a + " is not below 0", body.contains(least) || body.contains(start) ? 1 : 0, 1);
        return super.visitArrayAccess(a, v);
    }

    @Override
    public Void visitBinary(BinaryTree b, Void v) {
        if (b.getKind() == Tree.Kind.DIVIDE || b.getKind() == Tree.Kind.REMAINDER) {
            String by = b.getRightOperand().toString();
            boolean tested = by.matches("[1-9]\\d*|[A-Z_]+|\\((\\w+) < 1 \\? 1 : \\1\\)") || body.contains(by + " < 1")
                || body.contains(by + " != 0") || body.matches("(?s).*int " + by + " = (\\w+) < 1 \\? 1 : \\1;.*");
            Due.is(here() + "rule 7: a divisor that is tested, " + by, tested ? 1 : 0, 1);
        }
        return super.visitBinary(b, v);
    }

    private String here() {
        return caller == null ? "" : caller.getEnclosingElement().getSimpleName() + "." + caller.getSimpleName() + ": ";
    }
}
