import com.sun.source.tree.AssignmentTree;
import com.sun.source.tree.BinaryTree;
import com.sun.source.tree.ClassTree;
import com.sun.source.tree.CompilationUnitTree;
import com.sun.source.tree.CompoundAssignmentTree;
import com.sun.source.tree.DoWhileLoopTree;
import com.sun.source.tree.EnhancedForLoopTree;
import com.sun.source.tree.ExpressionTree;
import com.sun.source.tree.ForLoopTree;
import com.sun.source.tree.MethodInvocationTree;
import com.sun.source.tree.MethodTree;
import com.sun.source.tree.NewArrayTree;
import com.sun.source.tree.NewClassTree;
import com.sun.source.tree.Tree;
import com.sun.source.tree.TypeCastTree;
import com.sun.source.tree.VariableTree;
import com.sun.source.tree.WhileLoopTree;
import com.sun.source.util.JavacTask;
import com.sun.source.util.TreePath;
import com.sun.source.util.TreePathScanner;
import com.sun.source.util.TreeScanner;
import com.sun.source.util.Trees;
import java.nio.file.Path;
import java.util.ArrayList;
import java.util.HashMap;
import java.util.HashSet;
import java.util.List;
import java.util.Map;
import java.util.Set;
import java.util.TreeSet;
import java.util.regex.Pattern;
import javax.lang.model.element.Element;
import javax.lang.model.element.ExecutableElement;
import javax.lang.model.element.Modifier;
import javax.lang.model.element.TypeElement;
import javax.lang.model.type.TypeMirror;
import javax.tools.JavaCompiler;
import javax.tools.StandardJavaFileManager;
import javax.tools.ToolProvider;

/** Rules of LANGUAGE.md that are seen from the code as the compiler reads it: calls, types, loops, divisors. */
public final class CodeRules extends TreePathScanner<Void, Void> {
    private static final String SOURCE = "src/main/java/WaterTurns.java";
    /** "calls that are no recursion go at most eight deep" */
    private static final int MOST_DEEP = 8;
    private static final Set<String> LIBRARY = Set.of("java.lang.String.length", "java.lang.String.charAt",
            "java.lang.String.isEmpty", "java.lang.String.substring", "java.lang.String.toCharArray",
            "java.lang.System.arraycopy", "java.util.Arrays.copyOf", "java.util.Arrays.copyOfRange",
            "java.util.Arrays.fill", "java.lang.Object.<init>");
    private static final Pattern NUMBERS = Pattern.compile("java\\.lang\\.(Math|Integer|Long)\\.\\w+(?<!Exact)");
    private static final Pattern TYPES =
            Pattern.compile("(int|long|byte|char|boolean)(\\[\\])?|(int|long)\\[\\]\\[\\]|java\\.lang\\.String"
                    + "|WaterTurns(\\.\\w+)?(\\[\\])?|void");
    /** Divisors that are numbers, or are kept above 0 where they divide. */
    private static final Pattern DIVISORS = Pattern.compile("[1-9]\\d*|[A-Z][A-Z_]*|Math\\.max\\(1, .*\\)");

    private final Trees trees;
    private final CompilationUnitTree unit;
    private final Map<String, Set<String>> calls = new HashMap<>();
    private final Map<String, ExecutableElement> methods = new HashMap<>();
    private final List<String> broken = new ArrayList<>();

    private CodeRules(Trees trees, CompilationUnitTree unit) {
        this.trees = trees;
        this.unit = unit;
    }

    private void breaks(Tree at, String what) {
        long line = unit.getLineMap().getLineNumber(trees.getSourcePositions().getStartPosition(unit, at));
        broken.add("line " + line + ": " + what);
    }

    private static String nameOf(ExecutableElement m) {
        return ((TypeElement) m.getEnclosingElement()).getQualifiedName() + "." + m.getSimpleName();
    }

    private static boolean isOwn(String name) {
        return name.startsWith("WaterTurns.");
    }

    /** The method around, or NONE such: a field's first value is made with the object, by the constructor. */
    private String around() {
        TreePath path = getCurrentPath();
        while (path != null && !(path.getLeaf() instanceof MethodTree) && !(path.getLeaf() instanceof ClassTree)) {
            path = path.getParentPath();
        }
        Element e = path == null ? null : trees.getElement(path);
        if (e instanceof ExecutableElement m) {
            return nameOf(m);
        }
        return e instanceof TypeElement t ? t.getQualifiedName() + ".<init>" : "?";
    }

    private boolean isInLoop() {
        for (TreePath p = getCurrentPath(); p != null && !(p.getLeaf() instanceof MethodTree); p = p.getParentPath()) {
            Tree t = p.getLeaf();
            if (t instanceof ForLoopTree || t instanceof WhileLoopTree || t instanceof DoWhileLoopTree
                    || t instanceof EnhancedForLoopTree) {
                return true;
            }
        }
        return false;
    }

    private void addCall(Tree at, Element to) {
        if (!(to instanceof ExecutableElement m)) {
            breaks(at, "a call of what is no method");
            return;
        }
        String name = nameOf(m);
        if (isOwn(name)) {
            calls.computeIfAbsent(around(), k -> new TreeSet<>()).add(name);
        } else if (!LIBRARY.contains(name) && !NUMBERS.matcher(name).matches()) {
            breaks(at, "a library call that is not listed: " + name);
        }
    }

    @Override
    public Void visitMethodInvocation(MethodInvocationTree t, Void v) {
        addCall(t, trees.getElement(getCurrentPath()));
        return super.visitMethodInvocation(t, v);
    }

    @Override
    public Void visitNewClass(NewClassTree t, Void v) {
        addCall(t, trees.getElement(getCurrentPath()));
        if (isInLoop() || t.getClassBody() != null) {
            breaks(t, "an object made in a loop, or of a class without a name");
        }
        return super.visitNewClass(t, v);
    }

    @Override
    public Void visitNewArray(NewArrayTree t, Void v) {
        if (isInLoop() || around().contains(".") && !around().endsWith(".<init>")) {
            breaks(t, "a row that is made outside of a constructor");
        }
        return super.visitNewArray(t, v);
    }

    @Override
    public Void visitVariable(VariableTree t, Void v) {
        TypeMirror type = trees.getTypeMirror(new TreePath(getCurrentPath(), t.getType()));
        if (!TYPES.matcher(type.toString()).matches()) {
            breaks(t, "a type that is left out: " + type);
        }
        return super.visitVariable(t, v);
    }

    @Override
    public Void visitMethod(MethodTree t, Void v) {
        ExecutableElement m = (ExecutableElement) trees.getElement(getCurrentPath());
        if (methods.put(nameOf(m), m) != null) {
            breaks(t, "two methods of one name: " + nameOf(m));
        }
        if (!TYPES.matcher(m.getReturnType().toString()).matches()) {
            breaks(t, "a type that is left out: " + m.getReturnType());
        }
        return super.visitMethod(t, v);
    }

    @Override
    public Void visitTypeCast(TypeCastTree t, Void v) {
        if (!t.getType().toString().matches("int|short|byte|char|long")) {
            breaks(t, "a cast to " + t.getType());
        }
        return super.visitTypeCast(t, v);
    }

    private void seeDivisor(Tree at, ExpressionTree divisor) {
        String text = divisor.toString();
        if (DIVISORS.matcher(text).matches()) {
            return;
        }
        TreePath path = getCurrentPath();
        while (!(path.getLeaf() instanceof MethodTree)) {
            path = path.getParentPath();
        }
        String lines = path.getLeaf().toString();
        boolean isSeen = lines.contains(text + " != 0") || lines.contains(text + " < 1")
                || lines.contains("long " + text + " = Math.max(1, ") || lines.contains(text + " = commonDivisor(");
        if (!isSeen) {
            breaks(at, "a divisor that is not looked at: " + text);
        }
    }

    @Override
    public Void visitBinary(BinaryTree t, Void v) {
        if (t.getKind() == Tree.Kind.DIVIDE || t.getKind() == Tree.Kind.REMAINDER) {
            seeDivisor(t, t.getRightOperand());
        }
        return super.visitBinary(t, v);
    }

    @Override
    public Void visitCompoundAssignment(CompoundAssignmentTree t, Void v) {
        if (t.getKind() == Tree.Kind.DIVIDE_ASSIGNMENT || t.getKind() == Tree.Kind.REMAINDER_ASSIGNMENT) {
            seeDivisor(t, t.getExpression());
        }
        return super.visitCompoundAssignment(t, v);
    }

    @Override
    public Void visitForLoop(ForLoopTree t, Void v) {
        if (t.getCondition() == null || t.getUpdate().isEmpty()) {
            breaks(t, "a for without a bound");
        } else {
            String counter = t.getUpdate().get(0).toString().replaceAll("\\W.*", "");
            if (!t.getCondition().toString().matches("(?s).*\\b" + counter + "\\b.*")) {
                breaks(t, "a for whose bound is not of its counter");
            }
            new CounterKept(counter).scan(t.getStatement(), null);
        }
        return super.visitForLoop(t, v);
    }

    @Override
    public Void visitWhileLoop(WhileLoopTree t, Void v) {
        // A counter of the condition that the body steps on, one at a time.
        boolean isCounted = false;
        for (String word : t.getCondition().toString().split("\\W+")) {
            isCounted |= t.getStatement().toString().matches("(?s).*\\b" + word + "\\+\\+.*") && !word.isEmpty();
        }
        if (!isCounted) {
            breaks(t, "a while without a counter");
        }
        return super.visitWhileLoop(t, v);
    }

    /** A counter of a for is changed by its own line alone. */
    private final class CounterKept extends TreeScanner<Void, Void> {
        private final String counter;

        private CounterKept(String counter) {
            this.counter = counter;
        }

        @Override
        public Void visitAssignment(AssignmentTree t, Void v) {
            if (t.getVariable().toString().equals(counter)) {
                breaks(t, "a counter that its loop changes: " + counter);
            }
            return super.visitAssignment(t, v);
        }
    }

    private int depth(String name, Set<String> open) {
        int most = 0;
        for (String next : calls.getOrDefault(name, Set.of())) {
            if (next.equals(name)) {
                Set<Modifier> how = methods.get(name).getModifiers();
                if (!how.contains(Modifier.PRIVATE) || !how.contains(Modifier.STATIC)) {
                    broken.add("a recursion that is not private and static: " + name);
                }
            } else if (!open.add(next)) {
                broken.add("a ring of calls through " + next);
            } else {
                most = Math.max(most, depth(next, open));
                open.remove(next);
            }
        }
        return most + 1;
    }

    private void seeDepths() {
        Set<String> called = new HashSet<>();
        calls.values().forEach(called::addAll);
        for (String name : methods.keySet()) {
            int deep = depth(name, new HashSet<>(Set.of(name)));
            boolean isOfFace = methods.get(name).getModifiers().contains(Modifier.PUBLIC);
            if (isOfFace && deep > MOST_DEEP) {
                broken.add("calls " + deep + " deep from " + name);
            }
            if (!isOfFace && !name.endsWith(".<init>") && !called.contains(name)) {
                broken.add("a method that nobody calls: " + name);
            }
        }
    }

    public static void main(String[] args) throws Exception {
        JavaCompiler compiler = ToolProvider.getSystemJavaCompiler();
        int wrong = 1;
        try (StandardJavaFileManager files = compiler.getStandardFileManager(null, null, null)) {
            JavacTask task = (JavacTask) compiler.getTask(null, files, null, List.of("--release", "17"), null,
                    files.getJavaFileObjects(Path.of(args.length > 0 ? args[0] : SOURCE)));
            CompilationUnitTree unit = task.parse().iterator().next();
            task.analyze();
            CodeRules rules = new CodeRules(Trees.instance(task), unit);
            rules.scan(unit, null);
            rules.seeDepths();
            rules.broken.forEach(System.out::println);
            wrong = rules.broken.size() + (rules.methods.size() < 57 ? 1 : 0);
        }
        System.out.println(wrong == 0 ? "the code keeps to the rules" : wrong + " rules are not kept");
        if (wrong != 0) {
            System.exit(1);
        }
    }
}
