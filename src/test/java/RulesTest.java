import com.sun.source.tree.ArrayAccessTree;
import com.sun.source.tree.AssertTree;
import com.sun.source.tree.AssignmentTree;
import com.sun.source.tree.BinaryTree;
import com.sun.source.tree.BlockTree;
import com.sun.source.tree.ClassTree;
import com.sun.source.tree.CompilationUnitTree;
import com.sun.source.tree.CompoundAssignmentTree;
import com.sun.source.tree.DoWhileLoopTree;
import com.sun.source.tree.EnhancedForLoopTree;
import com.sun.source.tree.ExpressionTree;
import com.sun.source.tree.ForLoopTree;
import com.sun.source.tree.IdentifierTree;
import com.sun.source.tree.LambdaExpressionTree;
import com.sun.source.tree.MemberReferenceTree;
import com.sun.source.tree.MethodInvocationTree;
import com.sun.source.tree.MethodTree;
import com.sun.source.tree.NewArrayTree;
import com.sun.source.tree.NewClassTree;
import com.sun.source.tree.ParenthesizedTree;
import com.sun.source.tree.SynchronizedTree;
import com.sun.source.tree.ThrowTree;
import com.sun.source.tree.Tree;
import com.sun.source.tree.TryTree;
import com.sun.source.tree.UnaryTree;
import com.sun.source.tree.VariableTree;
import com.sun.source.tree.WhileLoopTree;
import com.sun.source.util.JavacTask;
import com.sun.source.util.SourcePositions;
import com.sun.source.util.TreePath;
import com.sun.source.util.TreePathScanner;
import com.sun.source.util.TreeScanner;
import com.sun.source.util.Trees;
import java.nio.file.Path;
import java.util.ArrayDeque;
import java.util.ArrayList;
import java.util.Deque;
import java.util.HashSet;
import java.util.LinkedHashMap;
import java.util.LinkedHashSet;
import java.util.List;
import java.util.Map;
import java.util.Set;
import java.util.TreeSet;
import javax.lang.model.element.Element;
import javax.lang.model.element.ElementKind;
import javax.lang.model.element.Modifier;
import javax.lang.model.type.TypeKind;
import javax.lang.model.type.TypeMirror;
import javax.tools.JavaCompiler;
import javax.tools.StandardJavaFileManager;
import javax.tools.ToolProvider;

/** LANGUAGE.md, rules 2 to 12, on the tree that the compiler itself makes of the source. */
public final class RulesTest extends TreePathScanner<Void, Void> {
    private static final int MOST_DEEP = 8, MOST_LINES = 60, MOST_CLASSES = 12, MOST_FIELDS = 20, MOST_TAKEN = 7;
    /** What rule 4 allows of the library, as far as ChairOld uses it: another call is looked up there first. */
    private static final Set<String> LIBRARY = Set.of("java.lang.Math.max", "java.lang.Math.min", "java.lang.Math.abs",
        "java.lang.Integer.bitCount", "java.lang.System.arraycopy", "java.util.Arrays.fill");
    private static final Set<String> PLAIN_TYPES = Set.of("int", "long", "short", "byte", "char", "boolean");
    private static final Set<String> CONSTANT_TYPES = Set.of("int", "long", "boolean", "char", "java.lang.String",
        "int[]", "long[]", "char[]", "byte[]");
    /** Rule 8: these methods call themselves or one another, with a depth among their arguments. */
    private static final Set<String> RECURSIVE = new TreeSet<>(Set.of("level", "operand", "opened", "run"));
    private static final Set<String> DEPTHS = Set.of("open", "depth");

    private final Trees trees;
    private final SourcePositions positions;
    private final CompilationUnitTree unit;
    private final Map<Element, Set<Element>> calls = new LinkedHashMap<>();
    private final Map<Element, MethodTree> bodies = new LinkedHashMap<>();
    private int classes = 0;
    private int wrong = 0;

    private RulesTest(Trees trees, CompilationUnitTree unit) {
        this.trees = trees;
        this.positions = trees.getSourcePositions();
        this.unit = unit;
    }

    public static void main(String[] args) throws Exception {
        Path source = Path.of(args.length > 0 ? args[0] : "src/main/java/ChairOld.java");
        JavaCompiler compiler = ToolProvider.getSystemJavaCompiler();
        StandardJavaFileManager files = compiler.getStandardFileManager(null, null, null);
        JavacTask task = (JavacTask) compiler.getTask(null, files, null, List.of("-proc:none"), null,
            files.getJavaFileObjects(source));
        CompilationUnitTree unit = task.parse().iterator().next();
        task.analyze();
        RulesTest rules = new RulesTest(Trees.instance(task), unit);
        rules.scan(unit, null);
        rules.check(rules.classes <= MOST_CLASSES, unit, "rule 11: " + rules.classes + " classes");
        rules.recursion();
        rules.depth();
        System.out.println(rules.wrong == 0 ? "the rules hold" : rules.wrong + " places are against the rules");
        if (rules.wrong != 0) {
            System.exit(1);
        }
    }

    private void check(boolean holds, Tree where, String what) {
        if (!holds) {
            wrong++;
            System.out.println("line " + lineOf(where) + ": " + what);
        }
    }

    private long lineOf(Tree tree) {
        return unit.getLineMap().getLineNumber(Math.max(0, positions.getStartPosition(unit, tree)));
    }

    private long lastLineOf(Tree tree) {
        return unit.getLineMap().getLineNumber(Math.max(0, positions.getEndPosition(unit, tree)));
    }

    private Element elementOf(Tree tree) {
        return trees.getElement(TreePath.getPath(unit, tree));
    }

    private String typeOf(Tree tree) {
        TypeMirror type = trees.getTypeMirror(TreePath.getPath(unit, tree));
        return type == null ? "" : type.toString();
    }

    private static boolean isOwn(Element element) {
        for (Element at = element; at != null; at = at.getEnclosingElement()) {
            if (at.getSimpleName().contentEquals("ChairOld")) {
                return true;
            }
        }
        return false;
    }

    // ---- rules 2, 5, 11: classes and their fields

    @Override
    public Void visitClass(ClassTree tree, Void none) {
        classes++;
        Tree around = getCurrentPath().getParentPath().getLeaf();
        boolean isOuter = around instanceof CompilationUnitTree;
        check(isOuter || around instanceof ClassTree, tree, "rule 2: a local or anonymous class");
        check(isOuter || elementOf(tree).getModifiers().contains(Modifier.STATIC), tree, "rule 2: not static");
        int fields = 0;
        for (Tree member : tree.getMembers()) {
            if (member instanceof VariableTree field) {
                boolean isStatic = field.getModifiers().getFlags().contains(Modifier.STATIC);
                fields += isStatic ? 0 : 1;
                if (isStatic) {
                    constant(field);
                }
            }
            check(!(member instanceof BlockTree block) || !block.isStatic(), member, "rule 5: a static block");
        }
        check(fields <= MOST_FIELDS, tree, "rule 11: " + fields + " fields");
        return super.visitClass(tree, none);
    }

    private void constant(VariableTree field) {
        check(field.getModifiers().getFlags().contains(Modifier.FINAL), field, "rule 5: static and not final");
        check(CONSTANT_TYPES.contains(typeOf(field)), field, "rule 5: a constant of " + typeOf(field));
        check(!typeOf(field).endsWith("[]") || field.getInitializer() instanceof NewArrayTree made
            && made.getInitializers() != null, field, "rule 5: not written out");
    }

    // ---- rule 3: types

    @Override
    public Void visitVariable(VariableTree tree, Void none) {
        type(typeOf(tree), tree);
        return super.visitVariable(tree, none);
    }

    private void type(String name, Tree where) {
        String base = name.replace("[]", "");
        int dimensions = (name.length() - base.length()) / 2;
        boolean isPlain = PLAIN_TYPES.contains(base);
        boolean isObject = base.startsWith("ChairOld") || base.equals("java.lang.String");
        check(isPlain && dimensions <= 2 || isObject && dimensions <= 1, where, "rule 3: " + name);
    }

    // ---- rules 2, 6: what is not there at all

    @Override
    public Void visitLambdaExpression(LambdaExpressionTree tree, Void none) {
        check(false, tree, "rule 2: a lambda");
        return super.visitLambdaExpression(tree, none);
    }

    @Override
    public Void visitMemberReference(MemberReferenceTree tree, Void none) {
        check(false, tree, "rule 2: a method reference");
        return super.visitMemberReference(tree, none);
    }

    @Override
    public Void visitThrow(ThrowTree tree, Void none) {
        check(false, tree, "rule 6: throw");
        return super.visitThrow(tree, none);
    }

    @Override
    public Void visitTry(TryTree tree, Void none) {
        check(false, tree, "rule 6: try");
        return super.visitTry(tree, none);
    }

    @Override
    public Void visitSynchronized(SynchronizedTree tree, Void none) {
        check(false, tree, "rule 6: synchronized");
        return super.visitSynchronized(tree, none);
    }

    @Override
    public Void visitAssert(AssertTree tree, Void none) {
        check(false, tree, "rule 6: assert");
        return super.visitAssert(tree, none);
    }

    @Override
    public Void visitBinary(BinaryTree tree, Void none) {
        boolean isText = typeOf(tree.getLeftOperand()).equals("java.lang.String")
            || typeOf(tree.getRightOperand()).equals("java.lang.String");
        check(!isText || tree.getKind() != Tree.Kind.PLUS, tree, "rule 10: texts joined by +");
        boolean compares = tree.getKind() == Tree.Kind.EQUAL_TO || tree.getKind() == Tree.Kind.NOT_EQUAL_TO;
        check(!isText || !compares, tree, "rule 6: texts compared by ==");
        return super.visitBinary(tree, none);
    }

    // ---- rule 5: constants are never changed

    @Override
    public Void visitAssignment(AssignmentTree tree, Void none) {
        notConstant(tree.getVariable());
        return super.visitAssignment(tree, none);
    }

    @Override
    public Void visitCompoundAssignment(CompoundAssignmentTree tree, Void none) {
        notConstant(tree.getVariable());
        return super.visitCompoundAssignment(tree, none);
    }

    @Override
    public Void visitUnary(UnaryTree tree, Void none) {
        if (isStep(tree)) {
            notConstant(tree.getExpression());
        }
        return super.visitUnary(tree, none);
    }

    private void notConstant(ExpressionTree changed) {
        Tree held = changed instanceof ArrayAccessTree access ? access.getExpression() : changed;
        Element element = elementOf(held);
        boolean isConstant = element != null && element.getKind() == ElementKind.FIELD
            && element.getModifiers().contains(Modifier.STATIC);
        check(!isConstant, changed, "rule 5: a constant is changed");
    }

    private static boolean isStep(UnaryTree tree) {
        return switch (tree.getKind()) {
            case POSTFIX_INCREMENT, POSTFIX_DECREMENT, PREFIX_INCREMENT, PREFIX_DECREMENT -> true;
            default -> false;
        };
    }

    // ---- rules 4, 11, 12: methods and what they call

    @Override
    public Void visitMethod(MethodTree tree, Void none) {
        Element method = elementOf(tree);
        calls.put(method, new LinkedHashSet<>());
        bodies.put(method, tree);
        check(tree.getParameters().size() <= MOST_TAKEN, tree, "rule 11: more than seven parameters");
        check(lastLineOf(tree) - lineOf(tree) < MOST_LINES, tree, "rule 11: a long method");
        String name = tree.getName().toString();
        check(!Set.of("equals", "hashCode", "toString").contains(name), tree, "rule 6: " + name);
        if (tree.getReturnType() != null && trees.getTypeMirror(new TreePath(getCurrentPath(), tree.getReturnType()))
            .getKind() != TypeKind.VOID) {
            type(typeOf(tree.getReturnType()), tree);
        }
        return super.visitMethod(tree, none);
    }

    @Override
    public Void visitMethodInvocation(MethodInvocationTree tree, Void none) {
        Element called = trees.getElement(getCurrentPath());
        String name = called.getEnclosingElement() + "." + called.getSimpleName();
        check(isOwn(called) || name.equals("java.lang.Object.<init>") || LIBRARY.contains(name), tree,
            "rule 4: " + name);
        Element around = methodAround();
        if (around != null) {
            calls.get(around).add(called);
        }
        return super.visitMethodInvocation(tree, none);
    }

    @Override
    public Void visitNewClass(NewClassTree tree, Void none) {
        check(isOwn(trees.getElement(getCurrentPath())), tree, "rule 4: new " + tree.getIdentifier());
        inNoLoop(tree);
        return super.visitNewClass(tree, none);
    }

    @Override
    public Void visitNewArray(NewArrayTree tree, Void none) {
        inNoLoop(tree);
        check(methodAround() == null, tree, "rule 12: rows are made with their object, not by calls");
        return super.visitNewArray(tree, none);
    }

    private void inNoLoop(Tree made) {
        for (TreePath at = getCurrentPath(); at != null; at = at.getParentPath()) {
            Tree leaf = at.getLeaf();
            boolean isLoop = leaf instanceof ForLoopTree || leaf instanceof WhileLoopTree
                || leaf instanceof DoWhileLoopTree || leaf instanceof EnhancedForLoopTree;
            check(!isLoop, made, "rule 12: made in a loop");
        }
    }

    private Element methodAround() {
        for (TreePath at = getCurrentPath(); at != null; at = at.getParentPath()) {
            if (at.getLeaf() instanceof MethodTree) {
                return trees.getElement(at);
            }
        }
        return null;
    }

    // ---- rule 9: a counter against a bound, which the loop itself does not change

    @Override
    public Void visitForLoop(ForLoopTree tree, Void none) {
        Set<String> changed = changedIn(tree.getStatement());
        boolean ends = false;
        if (tree.getUpdate().size() == 1 && tree.getUpdate().get(0).getExpression() instanceof UnaryTree step
            && isStep(step)) {
            String counter = step.getExpression().toString();
            ends = !changed.contains(counter) && isBounded(tree.getCondition(), counter, changed);
        }
        check(ends, tree, "rule 9: no end can be seen");
        return super.visitForLoop(tree, none);
    }

    @Override
    public Void visitWhileLoop(WhileLoopTree tree, Void none) {
        Set<String> changed = changedIn(tree.getStatement());
        ExpressionTree condition = tree.getCondition();
        boolean ends = false;
        for (String counter : changed) {
            Set<String> others = new HashSet<>(changed);
            others.remove(counter);
            ends |= isBounded(condition, counter, others);
        }
        check(ends, tree, "rule 9: no end can be seen");
        return super.visitWhileLoop(tree, none);
    }

    @Override
    public Void visitDoWhileLoop(DoWhileLoopTree tree, Void none) {
        check(false, tree, "rule 9: do is not looked at here");
        return super.visitDoWhileLoop(tree, none);
    }

    private static boolean isBounded(ExpressionTree condition, String counter, Set<String> changed) {
        if (condition instanceof ParenthesizedTree inner) {
            return isBounded(inner.getExpression(), counter, changed);
        }
        if (!(condition instanceof BinaryTree both)) {
            return false;
        }
        if (both.getKind() == Tree.Kind.CONDITIONAL_AND) {
            return isBounded(both.getLeftOperand(), counter, changed)
                || isBounded(both.getRightOperand(), counter, changed);
        }
        boolean compares = both.getKind() == Tree.Kind.LESS_THAN || both.getKind() == Tree.Kind.GREATER_THAN_EQUAL;
        return compares && both.getLeftOperand().toString().equals(counter)
            && namesIn(both.getRightOperand()).stream().noneMatch(changed::contains);
    }

    private static Set<String> changedIn(Tree body) {
        Set<String> changed = new HashSet<>();
        new TreeScanner<Void, Void>() {
            @Override
            public Void visitAssignment(AssignmentTree tree, Void none) {
                changed.add(tree.getVariable().toString());
                return super.visitAssignment(tree, none);
            }

            @Override
            public Void visitCompoundAssignment(CompoundAssignmentTree tree, Void none) {
                changed.add(tree.getVariable().toString());
                return super.visitCompoundAssignment(tree, none);
            }

            @Override
            public Void visitUnary(UnaryTree tree, Void none) {
                if (isStep(tree)) {
                    changed.add(tree.getExpression().toString());
                }
                return super.visitUnary(tree, none);
            }
        }.scan(body, null);
        return changed;
    }

    private static Set<String> namesIn(Tree expression) {
        Set<String> names = new HashSet<>();
        new TreeScanner<Void, Void>() {
            @Override
            public Void visitIdentifier(IdentifierTree tree, Void none) {
                names.add(tree.getName().toString());
                return super.visitIdentifier(tree, none);
            }
        }.scan(expression, null);
        return names;
    }

    // ---- rules 8, 11: how deep calls go

    private Set<Element> reachedFrom(Element method) {
        Set<Element> reached = new LinkedHashSet<>();
        Deque<Element> open = new ArrayDeque<>(calls.getOrDefault(method, Set.of()));
        while (!open.isEmpty()) {
            Element next = open.pop();
            if (reached.add(next)) {
                open.addAll(calls.getOrDefault(next, Set.of()));
            }
        }
        return reached;
    }

    private void recursion() {
        Set<String> found = new TreeSet<>();
        for (Element method : calls.keySet()) {
            if (reachedFrom(method).contains(method)) {
                found.add(method.getSimpleName().toString());
                MethodTree tree = bodies.get(method);
                boolean carries = tree.getParameters().stream().anyMatch(p -> DEPTHS.contains(p.getName().toString()));
                check(carries, tree, "rule 8: " + tree.getName() + " carries no depth");
            }
        }
        check(found.equals(RECURSIVE), unit, "rule 8: recursion in " + found);
    }

    private void depth() {
        for (Element method : calls.keySet()) {
            if (method.getModifiers().contains(Modifier.PUBLIC)) {
                List<String> way = deepest(method);
                check(way.size() <= MOST_DEEP, bodies.get(method), "rule 11: " + way.size() + " deep: " + way);
            }
        }
    }

    /** The longest way of calls from a method on, itself included; methods that call one another count as one. */
    private List<String> deepest(Element method) {
        Set<Element> together = new LinkedHashSet<>(Set.of(method));
        for (Element reached : reachedFrom(method)) {
            if (reachedFrom(reached).contains(method)) {
                together.add(reached);
            }
        }
        List<String> longest = List.of();
        for (Element one : together) {
            for (Element next : calls.getOrDefault(one, Set.of())) {
                List<String> way = together.contains(next) ? List.of() : deepest(next);
                longest = way.size() > longest.size() ? way : longest;
            }
        }
        List<String> whole = new ArrayList<>(List.of(method.getSimpleName().toString()));
        whole.addAll(longest);
        return whole;
    }
}
