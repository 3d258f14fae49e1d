import com.sun.source.tree.*;
import com.sun.source.util.JavacTask;
import com.sun.source.util.TreePath;
import com.sun.source.util.TreePathScanner;
import com.sun.source.util.Trees;
import java.nio.file.Path;
import java.util.ArrayDeque;
import java.util.ArrayList;
import java.util.Deque;
import java.util.HashSet;
import java.util.LinkedHashMap;
import java.util.LinkedHashSet;
import java.util.List;
import java.util.Map;
import java.util.Set;
import java.util.TreeSet;
import javax.lang.model.element.Element;
import javax.lang.model.element.ElementKind;
import javax.lang.model.element.ExecutableElement;
import javax.lang.model.element.Modifier;
import javax.lang.model.element.TypeElement;
import javax.lang.model.type.TypeKind;
import javax.lang.model.type.TypeMirror;
import javax.tools.JavaCompiler;
import javax.tools.StandardJavaFileManager;
import javax.tools.ToolProvider;

/** The source as the compiler reads it keeps to those rules of LANGUAGE.md that can be looked up in it. */
public final class RulesTest extends TreePathScanner<Void, Void> {
    private static final Path SOURCE = Path.of("src/main/java/PuppetHeirs.java");
    private static final int MOST_CLASSES = 12;
    private static final int MOST_FIELDS = 20;
    private static final int MOST_LINES = 60;
    private static final int MOST_PARAMETERS = 7;
    private static final int MOST_DEEP = 8;

    /** Rule 4, as far as the class needs it. */
    private static final Set<String> LIBRARY = Set.of("String.length", "String.charAt", "Integer.bitCount", "Math.min", "Math.max");
    private static final Set<String> THROWN = Set.of("NoSuchElementException", "IllegalArgumentException");
    /** Rule 8: what calls itself; what keeps it low is hand, below the HANDS, and open, 6 at most. */
    private static final Set<Set<String>> RECURSIONS =
        Set.of(Set.of("PuppetHeirs.planFrom"), Set.of("Law.readSum", "Law.readProduct", "Law.readUnit"));

    private final Trees trees;
    private final Map<String, Set<String>> calls = new LinkedHashMap<>();
    private final Deque<String> inside = new ArrayDeque<>();
    private int classes;
    private int wrong;

    private RulesTest(Trees trees) {
        this.trees = trees;
    }

    public static void main(String[] args) throws Exception {
        JavaCompiler compiler = ToolProvider.getSystemJavaCompiler();
        try (StandardJavaFileManager files = compiler.getStandardFileManager(null, null, null)) {
            JavacTask task = (JavacTask) compiler.getTask(null, files, null, List.of("-proc:none"), null, files.getJavaFileObjects(SOURCE));
            RulesTest rules = new RulesTest(Trees.instance(task));
            for (CompilationUnitTree unit : task.parse()) {
                task.analyze();
                rules.scan(unit, null);
            }
            rules.signs();
            rules.depth();
            rules.end();
        }
    }

    private void end() {
        if (classes < 2 || classes > MOST_CLASSES) fail(11, classes + " classes");
        if (calls.size() < 55) fail(1, "only " + calls.size() + " methods were looked at");
        System.out.println(wrong == 0 ? classes + " classes and " + calls.size() + " methods keep to the rules" : wrong + " faults");
        if (wrong != 0) System.exit(1);
    }

    private void fail(int rule, String why) {
        wrong++;
        System.out.println("rule " + rule + ": " + why);
    }

    private void failAt(int rule, Tree tree, String why) {
        CompilationUnitTree unit = getCurrentPath().getCompilationUnit();
        long at = trees.getSourcePositions().getStartPosition(unit, tree);
        fail(rule, "line " + unit.getLineMap().getLineNumber(at) + ", " + why + ": " + tree);
    }

    private void signs() throws Exception {
        String text = java.nio.file.Files.readString(SOURCE);
        if (!text.chars().allMatch(k -> k == '\n' || k >= 32 && k < 127)) fail(4, "a sign that is none of ASCII");
    }

    // ---- classes, fields, methods ----

    @Override
    public Void visitCompilationUnit(CompilationUnitTree unit, Void none) {
        if (unit.getPackage() != null) fail(1, "a package line");
        for (ImportTree line : unit.getImports()) {
            if (!line.getQualifiedIdentifier().toString().equals("java.util.NoSuchElementException")) fail(4, line.toString());
        }
        if (unit.getTypeDecls().size() != 1) fail(1, "more than one class in the file");
        return super.visitCompilationUnit(unit, none);
    }

    @Override
    public Void visitClass(ClassTree tree, Void none) {
        classes++;
        boolean outer = inside.isEmpty();
        Set<Modifier> flags = tree.getModifiers().getFlags();
        if (!outer && !flags.contains(Modifier.STATIC)) failAt(2, tree, "a class that is not static");
        if (tree.getKind() != Tree.Kind.CLASS || tree.getExtendsClause() != null) failAt(2, tree, "a kind of class that this test does not know");
        int fields = 0;
        for (Tree member : tree.getMembers()) {
            if (member instanceof VariableTree field && !field.getModifiers().getFlags().contains(Modifier.STATIC)) fields++;
            if (member instanceof BlockTree) failAt(5, member, "an initialiser block");
        }
        if (fields > MOST_FIELDS) fail(11, fields + " fields of " + tree.getSimpleName());
        inside.push(tree.getSimpleName().toString());
        super.visitClass(tree, none);
        inside.pop();
        return null;
    }

    @Override
    public Void visitMethod(MethodTree tree, Void none) {
        if (trees.getElement(getCurrentPath()) instanceof ExecutableElement method) {
            inside.push(nameOf(method));
            calls.putIfAbsent(nameOf(method), new LinkedHashSet<>());
        }
        if (tree.getParameters().size() > MOST_PARAMETERS) failAt(11, tree, "too many parameters");
        CompilationUnitTree unit = getCurrentPath().getCompilationUnit();
        long from = unit.getLineMap().getLineNumber(trees.getSourcePositions().getStartPosition(unit, tree));
        long to = unit.getLineMap().getLineNumber(trees.getSourcePositions().getEndPosition(unit, tree) - 1);
        if (to - from + 1 > MOST_LINES) fail(11, inside.peek() + " is too long");
        super.visitMethod(tree, none);
        inside.pop();
        return null;
    }

    /** Overloaded names would be taken for one method, which the count of methods in the class tells. */
    private static String nameOf(ExecutableElement method) {
        return method.getEnclosingElement().getSimpleName() + "." + method.getSimpleName();
    }

    @Override
    public Void visitVariable(VariableTree tree, Void none) {
        Element element = trees.getElement(getCurrentPath());
        if (element != null) {
            if (!isAllowed(element.asType())) failAt(3, tree, "a type that is not allowed");
            if (element.getKind() == ElementKind.FIELD) field(tree, element);
        }
        return super.visitVariable(tree, none);
    }

    private void field(VariableTree tree, Element field) {
        Set<Modifier> flags = field.getModifiers();
        if (!flags.contains(Modifier.STATIC)) return;
        if (!flags.contains(Modifier.FINAL) || tree.getInitializer() == null) failAt(5, tree, "a static field that can change");
        String type = field.asType().toString();
        if (!Set.of("int", "long", "boolean", "char", "java.lang.String", "int[]", "long[]", "char[]", "byte[]").contains(type)) {
            failAt(5, tree, "a static field of this type");
        }
        if (type.endsWith("[]") && !(tree.getInitializer() instanceof NewArrayTree)) failAt(5, tree, "a static row that is not written out");
    }

    private static boolean isAllowed(TypeMirror type) {
        String name = type.toString();
        if (name.matches("(int|long|short|byte|char|boolean|double|float)(\\[\\]){0,2}|java.lang.(String|StringBuilder)")) return true;
        return name.matches("PuppetHeirs(\\.\\w+)?(\\[\\])?");
    }

    // ---- what stands in methods ----

    @Override
    public Void visitMethodInvocation(MethodInvocationTree tree, Void none) {
        if (trees.getElement(getCurrentPath()) instanceof ExecutableElement method && method.getKind() == ElementKind.METHOD) {
            String name = nameOf(method);
            boolean own = topOf(method).getSimpleName().contentEquals("PuppetHeirs");
            if (own) calls.get(inside.peek()).add(name);
            else if (!LIBRARY.contains(name)) failAt(4, tree, "a call of the library");
        }
        return super.visitMethodInvocation(tree, none);
    }

    private static Element topOf(Element element) {
        Element top = element;
        while (!(top instanceof TypeElement) || top.getEnclosingElement() instanceof TypeElement) top = top.getEnclosingElement();
        return top;
    }

    @Override
    public Void visitNewClass(NewClassTree tree, Void none) {
        Tree parent = getCurrentPath().getParentPath().getLeaf();
        boolean own = isAllowed(trees.getTypeMirror(getCurrentPath()));
        if (tree.getClassBody() != null) failAt(2, tree, "a class without a name");
        if (own && !isInField()) failAt(12, tree, "an object made by a call");
        if (!own && !(parent instanceof ThrowTree)) failAt(4, tree, "an object of the library");
        return super.visitNewClass(tree, none);
    }

    @Override
    public Void visitNewArray(NewArrayTree tree, Void none) {
        if (!isInField()) failAt(12, tree, "a row made by a call");
        return super.visitNewArray(tree, none);
    }

    /** Whether this stands in no method, but where a field is made. */
    private boolean isInField() {
        for (TreePath path = getCurrentPath(); path != null; path = path.getParentPath()) {
            if (path.getLeaf() instanceof MethodTree) return false;
        }
        return true;
    }

    @Override
    public Void visitThrow(ThrowTree tree, Void none) {
        boolean plain = tree.getExpression() instanceof NewClassTree made && made.getArguments().isEmpty()
            && THROWN.contains(made.getIdentifier().toString());
        if (!plain) failAt(6, tree, "another throw");
        if (inside.peek().endsWith("<init>")) failAt(6, tree, "a throw in a constructor");
        return super.visitThrow(tree, none);
    }

    @Override
    public Void visitBinary(BinaryTree tree, Void none) {
        if (tree.getKind() == Tree.Kind.DIVIDE || tree.getKind() == Tree.Kind.REMAINDER) divisor(tree, tree.getRightOperand());
        if (tree.getKind() == Tree.Kind.PLUS && typeOf(tree).toString().equals("java.lang.String")) failAt(10, tree, "texts joined by +");
        return super.visitBinary(tree, none);
    }

    private TypeMirror typeOf(Tree tree) {
        return trees.getTypeMirror(TreePath.getPath(getCurrentPath(), tree));
    }

    /** A divisor is a written number, or what stands ahead of ? holds it against 0. */
    private void divisor(Tree tree, ExpressionTree divisor) {
        if (divisor instanceof LiteralTree number && !Integer.valueOf(0).equals(number.getValue())) return;
        boolean looked = getCurrentPath().getParentPath().getLeaf() instanceof ConditionalExpressionTree choice
            && choice.getFalseExpression() == tree && unwrapped(choice.getCondition()).equals(divisor + " == 0");
        if (!looked) failAt(7, tree, "a divisor that nobody looked at");
    }

    private static String unwrapped(ExpressionTree tree) {
        return tree instanceof ParenthesizedTree inner ? unwrapped(inner.getExpression()) : tree.toString();
    }

    @Override
    public Void visitCompoundAssignment(CompoundAssignmentTree tree, Void none) {
        boolean divides = tree.getKind() == Tree.Kind.DIVIDE_ASSIGNMENT || tree.getKind() == Tree.Kind.REMAINDER_ASSIGNMENT;
        if (divides) divisor(tree, tree.getExpression());
        unchanged(tree.getVariable());
        return super.visitCompoundAssignment(tree, none);
    }

    @Override
    public Void visitAssignment(AssignmentTree tree, Void none) {
        unchanged(tree.getVariable());
        return super.visitAssignment(tree, none);
    }

    private void unchanged(ExpressionTree variable) {
        if (!(variable instanceof ArrayAccessTree place)) return;
        Element row = trees.getElement(TreePath.getPath(getCurrentPath(), place.getExpression()));
        if (row != null && row.getModifiers().contains(Modifier.STATIC)) failAt(5, variable, "a constant row is changed");
    }

    @Override
    public Void visitSwitch(SwitchTree tree, Void none) {
        if (typeOf(tree.getExpression()).getKind() != TypeKind.INT) failAt(10, tree, "a switch on something else than numbers");
        return super.visitSwitch(tree, none);
    }

    @Override
    public Void visitTypeCast(TypeCastTree tree, Void none) {
        if (!typeOf(tree.getType()).getKind().isPrimitive()) failAt(6, tree, "a cast");
        return super.visitTypeCast(tree, none);
    }

    // ---- loops ----

    @Override
    public Void visitForLoop(ForLoopTree tree, Void none) {
        if (tree.getCondition() == null || !isBound(tree.getCondition()) || tree.getUpdate().size() != 1) {
            failAt(9, tree, "a loop whose end can't be seen");
        }
        return super.visitForLoop(tree, none);
    }

    @Override
    public Void visitWhileLoop(WhileLoopTree tree, Void none) {
        if (!isBound(tree.getCondition())) failAt(9, tree, "a loop whose end can't be seen");
        return super.visitWhileLoop(tree, none);
    }

    /** Whether some part that must hold is a counter against a bound. */
    private static boolean isBound(ExpressionTree condition) {
        if (condition instanceof ParenthesizedTree inner) return isBound(inner.getExpression());
        if (!(condition instanceof BinaryTree pair)) return false;
        switch (pair.getKind()) {
            case CONDITIONAL_AND: return isBound(pair.getLeftOperand()) || isBound(pair.getRightOperand());
            case LESS_THAN: case LESS_THAN_EQUAL: case GREATER_THAN: case GREATER_THAN_EQUAL:
                return pair.getLeftOperand() instanceof IdentifierTree || pair.getLeftOperand() instanceof MemberSelectTree;
            default: return false;
        }
    }

    // ---- what the class does without ----

    @Override
    public Void visitDoWhileLoop(DoWhileLoopTree tree, Void none) {
        failAt(9, tree, "a loop that this test does not know");
        return super.visitDoWhileLoop(tree, none);
    }

    @Override
    public Void visitLambdaExpression(LambdaExpressionTree tree, Void none) {
        failAt(2, tree, "a lambda");
        return super.visitLambdaExpression(tree, none);
    }

    @Override
    public Void visitMemberReference(MemberReferenceTree tree, Void none) {
        failAt(2, tree, "a method reference");
        return super.visitMemberReference(tree, none);
    }

    @Override
    public Void visitTry(TryTree tree, Void none) {
        failAt(6, tree, "a try");
        return super.visitTry(tree, none);
    }

    @Override
    public Void visitSynchronized(SynchronizedTree tree, Void none) {
        failAt(6, tree, "synchronized");
        return super.visitSynchronized(tree, none);
    }

    @Override
    public Void visitAssert(AssertTree tree, Void none) {
        failAt(6, tree, "assert");
        return super.visitAssert(tree, none);
    }

    @Override
    public Void visitInstanceOf(InstanceOfTree tree, Void none) {
        failAt(6, tree, "instanceof");
        return super.visitInstanceOf(tree, none);
    }

    // ---- how deep calls go ----

    private void depth() {
        Set<Set<String>> found = new HashSet<>();
        for (String name : calls.keySet()) {
            Set<String> circle = circleOf(name);
            if (!circle.isEmpty()) found.add(circle);
        }
        if (!found.equals(RECURSIONS)) fail(8, "these call themselves: " + found);
        for (String name : calls.keySet()) {
            List<String> deepest = deepestFrom(name, new LinkedHashSet<>());
            if (deepest.size() > MOST_DEEP) fail(11, "calls " + deepest.size() + " deep: " + deepest);
        }
    }

    /** Those that call this one and are called by it, itself among them; empty: it is in no recursion. */
    private Set<String> circleOf(String name) {
        Set<String> circle = new TreeSet<>();
        for (String other : reachedFrom(name)) {
            if (reachedFrom(other).contains(name)) circle.add(other);
        }
        return circle;
    }

    private Set<String> reachedFrom(String name) {
        Set<String> reached = new LinkedHashSet<>();
        Deque<String> open = new ArrayDeque<>(calls.getOrDefault(name, Set.of()));
        while (!open.isEmpty()) {
            String next = open.pop();
            if (reached.add(next)) open.addAll(calls.getOrDefault(next, Set.of()));
        }
        return reached;
    }

    /** The longest chain of calls in which none stands twice. */
    private List<String> deepestFrom(String name, Set<String> above) {
        List<String> deepest = new ArrayList<>();
        if (!above.add(name)) return deepest;
        for (String called : calls.getOrDefault(name, Set.of())) {
            List<String> chain = deepestFrom(called, above);
            if (chain.size() > deepest.size()) deepest = chain;
        }
        above.remove(name);
        List<String> whole = new ArrayList<>(List.of(name));
        whole.addAll(deepest);
        return whole;
    }
}
