import com.sun.source.tree.BinaryTree;
import com.sun.source.tree.ClassTree;
import com.sun.source.tree.CompilationUnitTree;
import com.sun.source.tree.CompoundAssignmentTree;
import com.sun.source.tree.ExpressionTree;
import com.sun.source.tree.MethodInvocationTree;
import com.sun.source.tree.MethodTree;
import com.sun.source.tree.NewClassTree;
import com.sun.source.tree.Tree;
import com.sun.source.tree.TypeCastTree;
import com.sun.source.util.JavacTask;
import com.sun.source.util.TreePath;
import com.sun.source.util.TreePathScanner;
import com.sun.source.util.Trees;
import java.io.File;
import java.util.ArrayList;
import java.util.HashMap;
import java.util.LinkedHashMap;
import java.util.LinkedHashSet;
import java.util.List;
import java.util.Map;
import java.util.Set;
import java.util.TreeSet;
import javax.lang.model.element.Element;
import javax.lang.model.element.ExecutableElement;
import javax.lang.model.element.Modifier;
import javax.lang.model.element.VariableElement;
import javax.tools.JavaCompiler;
import javax.tools.StandardJavaFileManager;
import javax.tools.ToolProvider;

/** Who calls whom in the class, as the compiler sees it: the rules 4, 6, 7, 8 and 11 of LANGUAGE.md that tell of calls. */
public final class CallsTest {
    private static final int DEEPEST = 8;
    private static final Set<String> LIBRARY = Set.of("System.arraycopy", "Arrays.fill", "Math.max", "Math.min", "Math.abs", "Integer.bitCount",
        "Integer.numberOfTrailingZeros");
    /** Divisors that are no constants; each is looked at on the lines ahead of the division. */
    private static final Set<String> LOOKED_AT = Set.of("divisor", "smaller", "many");
    private static final Set<String> RECURSIVE = Set.of("Guess.search");

    private static int wrong;

    private final Map<ExecutableElement, Set<ExecutableElement>> calls = new LinkedHashMap<>();
    private final Map<ExecutableElement, Integer> depths = new HashMap<>();
    private final Set<String> recursive = new TreeSet<>();

    private static void must(boolean holds, String what) {
        if (holds) return;
        wrong++;
        System.out.println("broken: " + what);
    }

    public static void main(String[] args) throws Exception {
        JavaCompiler javac = ToolProvider.getSystemJavaCompiler();
        CallsTest t = new CallsTest();
        try (StandardJavaFileManager files = javac.getStandardFileManager(null, null, null)) {
            JavacTask task = (JavacTask) javac.getTask(null, files, null, List.of("-proc:none"), null,
                files.getJavaFileObjects(new File("src/main/java/MurmurHall.java")));
            Iterable<? extends CompilationUnitTree> units = task.parse();
            task.analyze();
            Trees trees = Trees.instance(task);
            for (CompilationUnitTree unit : units) t.new Reader(trees).scan(unit, null);
        }
        t.hold(args.length > 0);
        System.out.println(wrong == 0 ? t.calls.size() + " methods call one another as they may" : wrong + " rules are broken");
        if (wrong != 0) System.exit(1);
    }

    private static String nameOf(Element e) { return e.getEnclosingElement().getSimpleName() + "." + e.getSimpleName(); }

    private void hold(boolean told) {
        Set<String> faces = new TreeSet<>();
        for (ExecutableElement m : calls.keySet()) if (m.getModifiers().contains(Modifier.PUBLIC)) faces.add(m.getSimpleName().toString());
        for (ExecutableElement m : calls.keySet()) {
            int depth = depth(m, new ArrayList<>());
            must(depth <= DEEPEST, nameOf(m) + " goes " + depth + " deep: " + chain(m));
            if (told && depth >= DEEPEST - 1) System.out.println(depth + ": " + chain(m));
            must(m.getParameters().size() <= 7, nameOf(m) + " takes at most seven");
            if (m.getModifiers().contains(Modifier.PUBLIC) || m.getSimpleName().contentEquals("<init>")) continue;
            must(!faces.contains(m.getSimpleName().toString()), nameOf(m) + " bears the name of a public method");
            must(isCalled(m), nameOf(m) + " is called by none");
        }
        must(recursive.equals(RECURSIVE), "only " + RECURSIVE + " call themselves, not " + recursive);
    }

    private boolean isCalled(ExecutableElement m) { return calls.values().stream().anyMatch(c -> c.contains(m)); }

    /** How many calls stand open at once, this one counted; one that calls itself counts once. */
    private int depth(ExecutableElement m, List<ExecutableElement> open) {
        if (open.contains(m)) {
            recursive.add(nameOf(m));
            boolean alone = m.equals(open.get(open.size() - 1));
            must(m.getModifiers().contains(Modifier.PRIVATE), nameOf(m) + " calls itself and is private");
            must(!alone || m.getModifiers().contains(Modifier.STATIC), nameOf(m) + " calls itself and is static");
            return 0;
        }
        if (depths.containsKey(m)) return depths.get(m);
        open.add(m);
        int most = 0;
        for (ExecutableElement other : calls.getOrDefault(m, Set.of())) most = Math.max(most, depth(other, open));
        open.remove(open.size() - 1);
        depths.put(m, most + 1);
        return most + 1;
    }

    private String chain(ExecutableElement m) {
        for (ExecutableElement other : calls.getOrDefault(m, Set.of())) {
            if (depths.getOrDefault(other, 0) == depths.get(m) - 1) return nameOf(m) + " " + chain(other);
        }
        return nameOf(m);
    }

    /** Notes for each method whom it calls, and looks at what else only the compiler can tell. */
    private final class Reader extends TreePathScanner<Void, Void> {
        private final Trees trees;
        private ExecutableElement current;

        Reader(Trees trees) { this.trees = trees; }

        @Override
        public Void visitMethod(MethodTree tree, Void none) {
            ExecutableElement before = current;
            current = (ExecutableElement) trees.getElement(getCurrentPath());
            calls.putIfAbsent(current, new LinkedHashSet<>());
            super.visitMethod(tree, none);
            current = before;
            return null;
        }

        @Override
        public Void visitClass(ClassTree tree, Void none) {
            Element e = trees.getElement(getCurrentPath());
            boolean outermost = e.getSimpleName().contentEquals("MurmurHall");
            must(outermost || e.getModifiers().contains(Modifier.STATIC), e + " is static");
            must(tree.getKind() == Tree.Kind.CLASS, e + " is a class");
            return super.visitClass(tree, none);
        }

        @Override
        public Void visitMethodInvocation(MethodInvocationTree tree, Void none) {
            Element e = trees.getElement(new TreePath(getCurrentPath(), tree.getMethodSelect()));
            boolean own = e.getEnclosingElement().toString().startsWith("MurmurHall");
            boolean superCall = e.getSimpleName().contentEquals("<init>");
            if (own && current != null) calls.get(current).add((ExecutableElement) e);
            must(own || superCall || LIBRARY.contains(nameOf(e)), nameOf(e) + " is of the library");
            return super.visitMethodInvocation(tree, none);
        }

        @Override
        public Void visitNewClass(NewClassTree tree, Void none) {
            must(current == null, "an object is made in " + current);
            return super.visitNewClass(tree, none);
        }

        @Override
        public Void visitBinary(BinaryTree tree, Void none) {
            if (tree.getKind() == Tree.Kind.DIVIDE || tree.getKind() == Tree.Kind.REMAINDER) divisor(tree.getRightOperand());
            return super.visitBinary(tree, none);
        }

        @Override
        public Void visitCompoundAssignment(CompoundAssignmentTree tree, Void none) {
            if (tree.getKind() == Tree.Kind.DIVIDE_ASSIGNMENT || tree.getKind() == Tree.Kind.REMAINDER_ASSIGNMENT) divisor(tree.getExpression());
            return super.visitCompoundAssignment(tree, none);
        }

        @Override
        public Void visitTypeCast(TypeCastTree tree, Void none) {
            must(Set.of("byte", "short", "int", "long").contains(tree.getType().toString()), "a cast to " + tree.getType());
            return super.visitTypeCast(tree, none);
        }

        private void divisor(ExpressionTree by) {
            Element e = trees.getElement(new TreePath(getCurrentPath(), by));
            Object constant = e instanceof VariableElement v ? v.getConstantValue() : null;
            boolean number = by.getKind() == Tree.Kind.INT_LITERAL && !by.toString().equals("0");
            boolean fixed = constant instanceof Integer i && i != 0;
            must(number || fixed || LOOKED_AT.contains(by.toString()), "a divisor that may be 0: " + by + " in " + current);
        }
    }
}
