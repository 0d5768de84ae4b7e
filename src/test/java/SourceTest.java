import com.sun.source.tree.ArrayTypeTree;
import com.sun.source.tree.AssertTree;
import com.sun.source.tree.BinaryTree;
import com.sun.source.tree.ClassTree;
import com.sun.source.tree.CompilationUnitTree;
import com.sun.source.tree.CompoundAssignmentTree;
import com.sun.source.tree.EnhancedForLoopTree;
import com.sun.source.tree.ExpressionTree;
import com.sun.source.tree.LambdaExpressionTree;
import com.sun.source.tree.LiteralTree;
import com.sun.source.tree.MemberReferenceTree;
import com.sun.source.tree.MethodInvocationTree;
import com.sun.source.tree.MethodTree;
import com.sun.source.tree.NewClassTree;
import com.sun.source.tree.ThrowTree;
import com.sun.source.tree.Tree;
import com.sun.source.tree.TryTree;
import com.sun.source.tree.TypeCastTree;
import com.sun.source.tree.VariableTree;
import com.sun.source.util.JavacTask;
import com.sun.source.util.SourcePositions;
import com.sun.source.util.TreePath;
import com.sun.source.util.TreePathScanner;
import com.sun.source.util.Trees;
import java.io.IOException;
import java.nio.file.Path;
import java.util.HashMap;
import java.util.HashSet;
import java.util.List;
import java.util.Map;
import java.util.Set;
import java.util.TreeMap;
import java.util.TreeSet;
import javax.lang.model.element.Element;
import javax.lang.model.element.ElementKind;
import javax.lang.model.element.Modifier;
import javax.lang.model.type.TypeKind;
import javax.tools.JavaCompiler;
import javax.tools.StandardJavaFileManager;
import javax.tools.ToolProvider;

/** Rules of ../shared/LANGUAGE.md that are seen in the tree that the compiler makes of the source. */
final class SourceTest extends TreePathScanner<Void, Void> {
    private static final Set<String> LIBRARY = Set.of(
        "java.lang.String.length", "java.lang.String.charAt", "java.util.ArrayList.<init>", "java.util.ArrayList.add",
        "java.util.ArrayList.get", "java.util.ArrayList.size", "java.lang.Math.max", "java.lang.Math.min",
        "java.util.Arrays.copyOf", "java.util.Arrays.copyOfRange", "java.util.Arrays.fill", "java.lang.Object.<init>");
    private static final Set<String> EXCEPTIONS = Set.of("IllegalStateException", "IllegalArgumentException",
        "IndexOutOfBoundsException", "ArithmeticException", "UnsupportedOperationException", "NoSuchElementException",
        "RuntimeException");
    private static final int DEEPEST_CALLS = 8;
    private static final int MOST_PARAMETERS = 7;
    private static final int MOST_LINES = 60;
    private static final int MOST_CLASSES = 12;
    private static final int MOST_FIELDS = 20;

    private final Trees trees;
    private final CompilationUnitTree unit;
    private final SourcePositions places;
    private final Map<String, Set<String>> calls = new TreeMap<>();
    private final Map<String, MethodTree> methods = new TreeMap<>();
    private final Map<String, Integer> fields = new TreeMap<>();
    private String within = "";

    private SourceTest(Trees trees, CompilationUnitTree unit) {
        this.trees = trees;
        this.unit = unit;
        this.places = trees.getSourcePositions();
    }

    public static void main(String[] args) throws IOException {
        JavaCompiler compiler = ToolProvider.getSystemJavaCompiler();
        StandardJavaFileManager files = compiler.getStandardFileManager(null, null, null);
        JavacTask task = (JavacTask) compiler.getTask(null, files, null, List.of("--release", "17", "-proc:none"), null,
            files.getJavaFileObjects(Path.of("src/main/java/PassportOffice.java")));
        CompilationUnitTree unit = task.parse().iterator().next();
        task.analyze();
        SourceTest test = new SourceTest(Trees.instance(task), unit);
        test.scan(unit, null);
        test.countsAreSmall();
        test.onlyTheGrammarCallsItself();
        test.callsAreNotDeep();
        Check.close();
    }

    private String place(Tree tree) {
        return "line " + unit.getLineMap().getLineNumber(places.getStartPosition(unit, tree));
    }

    private void none(Tree tree, String what) {
        Check.yes(place(tree) + ": no " + what, false);
    }

    private Element elementHere() {
        return trees.getElement(getCurrentPath());
    }

    private static String nameOf(Element method) {
        return method.getEnclosingElement() + "." + method.getSimpleName();
    }

    // ---- what is looked at in the tree

    @Override
    public Void visitClass(ClassTree tree, Void none) {
        fields.putIfAbsent(elementHere().toString(), 0);
        Check.yes(place(tree) + ": the class has a name", tree.getSimpleName().length() > 0);
        return super.visitClass(tree, none);
    }

    @Override
    public Void visitVariable(VariableTree tree, Void none) {
        Element field = elementHere();
        if (field.getKind() == ElementKind.FIELD) {
            boolean isStatic = field.getModifiers().contains(Modifier.STATIC);
            Check.yes(place(tree) + ": a static field is final",
                !isStatic || field.getModifiers().contains(Modifier.FINAL));
            if (!isStatic) fields.merge(field.getEnclosingElement().toString(), 1, Integer::sum);
        }
        return super.visitVariable(tree, none);
    }

    @Override
    public Void visitMethod(MethodTree tree, Void none) {
        String outside = within;
        within = nameOf(elementHere());
        methods.put(within, tree);
        calls.putIfAbsent(within, new TreeSet<>());
        Check.yes(within + " has at most seven parameters", tree.getParameters().size() <= MOST_PARAMETERS);
        long first = unit.getLineMap().getLineNumber(places.getStartPosition(unit, tree));
        long last = unit.getLineMap().getLineNumber(places.getEndPosition(unit, tree));
        Check.yes(within + " is short", last - first < MOST_LINES);
        super.visitMethod(tree, none);
        within = outside;
        return null;
    }

    @Override
    public Void visitMethodInvocation(MethodInvocationTree tree, Void none) {
        call(tree);
        return super.visitMethodInvocation(tree, none);
    }

    @Override
    public Void visitNewClass(NewClassTree tree, Void none) {
        boolean thrown = getCurrentPath().getParentPath().getLeaf() instanceof ThrowTree;
        if (!thrown) call(tree);
        Check.yes(place(tree) + ": no class without a name", tree.getClassBody() == null);
        return super.visitNewClass(tree, none);
    }

    private void call(Tree tree) {
        Element called = elementHere();
        boolean own = called.getEnclosingElement().toString().startsWith("PassportOffice");
        String name = called.getEnclosingElement().toString().replaceAll("<.*", "") + "." + called.getSimpleName();
        Check.yes(place(tree) + ": " + name + " is allowed", own || LIBRARY.contains(name));
        if (own && !within.isEmpty()) calls.get(within).add(nameOf(called));
    }

    @Override
    public Void visitThrow(ThrowTree tree, Void none) {
        ExpressionTree thrown = tree.getExpression();
        boolean made = thrown instanceof NewClassTree;
        Check.yes(place(tree) + ": what is thrown is made there", made);
        if (made) {
            NewClassTree one = (NewClassTree) thrown;
            Check.yes(place(tree) + ": an exception of rule 6", EXCEPTIONS.contains(one.getIdentifier().toString()));
            Check.yes(place(tree) + ": with a written text or none",
                one.getArguments().stream().allMatch(a -> a instanceof LiteralTree) && one.getArguments().size() <= 1);
        }
        Check.yes(place(tree) + ": no throw in a constructor", !within.endsWith("<init>"));
        return super.visitThrow(tree, none);
    }

    @Override
    public Void visitBinary(BinaryTree tree, Void none) {
        if (tree.getKind() == Tree.Kind.PLUS) {
            TypeKind kind = trees.getTypeMirror(getCurrentPath()).getKind();
            Check.yes(place(tree) + ": + adds numbers alone", kind == TypeKind.INT);
        }
        if (tree.getKind() == Tree.Kind.DIVIDE || tree.getKind() == Tree.Kind.REMAINDER) {
            Object divisor = constant(tree.getRightOperand());
            Check.yes(place(tree) + ": the divisor is a written number", divisor instanceof Integer && (Integer) divisor != 0);
        }
        return super.visitBinary(tree, none);
    }

    /** The number that stands there, or the one that a constant is told to be, or the length of a written array. */
    private Object constant(ExpressionTree tree) {
        if (tree instanceof LiteralTree) return ((LiteralTree) tree).getValue();
        if (tree.toString().equals("WEIGHTS.length")) return 3;
        Element told = trees.getElement(new TreePath(getCurrentPath(), tree));
        return told instanceof javax.lang.model.element.VariableElement
            ? ((javax.lang.model.element.VariableElement) told).getConstantValue() : null;
    }

    @Override
    public Void visitCompoundAssignment(CompoundAssignmentTree tree, Void none) {
        TypeKind kind = trees.getTypeMirror(getCurrentPath()).getKind();
        Check.yes(place(tree) + ": numbers and booleans alone", kind == TypeKind.INT || kind == TypeKind.BOOLEAN);
        Tree.Kind sign = tree.getKind();
        if (sign == Tree.Kind.REMAINDER_ASSIGNMENT || sign == Tree.Kind.DIVIDE_ASSIGNMENT) {
            Object divisor = constant(tree.getExpression());
            Check.yes(place(tree) + ": the divisor is a written number", divisor instanceof Integer && (Integer) divisor != 0);
        }
        return super.visitCompoundAssignment(tree, none);
    }

    @Override
    public Void visitArrayType(ArrayTypeTree tree, Void none) {
        Check.yes(place(tree) + ": arrays of int alone", tree.getType().toString().equals("int"));
        return super.visitArrayType(tree, none);
    }

    @Override
    public Void visitTypeCast(TypeCastTree tree, Void none) {
        none(tree, "cast");
        return null;
    }

    @Override
    public Void visitTry(TryTree tree, Void none) {
        none(tree, "try");
        return null;
    }

    @Override
    public Void visitLambdaExpression(LambdaExpressionTree tree, Void none) {
        none(tree, "lambda");
        return null;
    }

    @Override
    public Void visitMemberReference(MemberReferenceTree tree, Void none) {
        none(tree, "method reference");
        return null;
    }

    @Override
    public Void visitAssert(AssertTree tree, Void none) {
        none(tree, "assert");
        return null;
    }

    @Override
    public Void visitEnhancedForLoop(EnhancedForLoopTree tree, Void none) {
        none(tree, "loop that makes an iterator");
        return null;
    }

    // ---- what is looked at behind it

    private void countsAreSmall() {
        Check.yes("some twelve classes", fields.size() <= MOST_CLASSES);
        fields.forEach((name, n) -> Check.yes(name + " has some twenty fields", n <= MOST_FIELDS));
    }

    private Set<String> reached(String from) {
        Set<String> reached = new HashSet<>();
        List<String> next = List.copyOf(calls.getOrDefault(from, Set.of()));
        while (!next.isEmpty()) {
            Set<String> further = new TreeSet<>();
            for (String one : next) {
                if (reached.add(one)) further.addAll(calls.getOrDefault(one, Set.of()));
            }
            next = List.copyOf(further);
        }
        return reached;
    }

    private Set<String> recursive() {
        Set<String> all = new TreeSet<>();
        for (String one : calls.keySet()) {
            if (reached(one).contains(one)) all.add(one);
        }
        return all;
    }

    private void onlyTheGrammarCallsItself() {
        String law = "PassportOffice.Law.";
        Set<String> grammar = new TreeSet<>(List.of(law + "readAny", law + "readAll", law + "readAtom"));
        Check.same("what calls itself", grammar.toString(), recursive().toString());
        for (String one : recursive()) {
            boolean carried = methods.get(one).getParameters().stream().anyMatch(p -> p.toString().equals("int depth"));
            Check.yes(one + " carries its depth", carried);
        }
    }

    private void callsAreNotDeep() {
        Set<String> recursive = recursive();
        Map<String, Integer> known = new HashMap<>();
        for (String one : calls.keySet()) {
            int deep = depth(one, recursive, known, new HashSet<>());
            Check.yes("calls from " + one + " go " + deep + " deep", deep <= DEEPEST_CALLS);
        }
    }

    /** How many calls stand open at most from here on; those that call one another are one together. */
    private int depth(String from, Set<String> recursive, Map<String, Integer> known, Set<String> open) {
        if (known.containsKey(from)) return known.get(from);
        open.add(from);
        int deepest = 0;
        Set<String> next = recursive.contains(from) ? new TreeSet<>(reached(from)) : calls.getOrDefault(from, Set.of());
        for (String one : next) {
            boolean together = recursive.contains(from) && recursive.contains(one);
            if (!together && !open.contains(one)) deepest = Math.max(deepest, depth(one, recursive, known, open));
        }
        open.remove(from);
        known.put(from, deepest + 1);
        return deepest + 1;
    }
}
