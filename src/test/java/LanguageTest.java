import com.sun.source.tree.AssignmentTree;
import com.sun.source.tree.BinaryTree;
import com.sun.source.tree.BlockTree;
import com.sun.source.tree.CompilationUnitTree;
import com.sun.source.tree.CompoundAssignmentTree;
import com.sun.source.tree.ExpressionTree;
import com.sun.source.tree.ForLoopTree;
import com.sun.source.tree.MethodInvocationTree;
import com.sun.source.tree.MethodTree;
import com.sun.source.tree.ModifiersTree;
import com.sun.source.tree.NewArrayTree;
import com.sun.source.tree.PrimitiveTypeTree;
import com.sun.source.tree.Tree;
import com.sun.source.tree.Tree.Kind;
import com.sun.source.tree.UnaryTree;
import com.sun.source.tree.VariableTree;
import com.sun.source.util.JavacTask;
import com.sun.source.util.SourcePositions;
import com.sun.source.util.TreeScanner;
import com.sun.source.util.Trees;
import java.io.IOException;
import java.nio.file.Path;
import java.util.ArrayDeque;
import java.util.Deque;
import java.util.EnumSet;
import java.util.Map;
import java.util.Set;
import java.util.TreeMap;
import java.util.TreeSet;
import javax.lang.model.element.Modifier;
import javax.lang.model.type.TypeKind;
import javax.tools.JavaCompiler;
import javax.tools.StandardJavaFileManager;
import javax.tools.ToolProvider;

/**
 * The rules of LANGUAGE.md that the source shows; FaceTest has those that a class file shows.
 * Where a rule leaves room the class uses less of it, and is held to that: arrays are made in the
 * fields' initialisers alone, only fields name arrays, and every loop counts up to a bound.
 */
public final class LanguageTest extends TreeScanner<Void, Void> {
    private static final Due due = new Due();
    private static final Path SOURCE = Path.of("src/main/java/RecordLocks.java");

    // Another part of Java may be added here once it has been looked up in the rules.
    private static final Set<Kind> USED = EnumSet.of(
        Kind.COMPILATION_UNIT, Kind.CLASS, Kind.MODIFIERS, Kind.VARIABLE, Kind.METHOD, Kind.BLOCK,
        Kind.PRIMITIVE_TYPE, Kind.ARRAY_TYPE, Kind.NEW_ARRAY, Kind.ARRAY_ACCESS, Kind.IDENTIFIER,
        Kind.INT_LITERAL, Kind.BOOLEAN_LITERAL, Kind.ASSIGNMENT, Kind.OR_ASSIGNMENT, Kind.EXPRESSION_STATEMENT,
        Kind.METHOD_INVOCATION, Kind.IF, Kind.FOR_LOOP, Kind.BREAK, Kind.RETURN, Kind.PARENTHESIZED,
        Kind.CONDITIONAL_EXPRESSION, Kind.CONDITIONAL_AND, Kind.CONDITIONAL_OR, Kind.LOGICAL_COMPLEMENT,
        Kind.PLUS, Kind.MINUS, Kind.MULTIPLY, Kind.UNARY_MINUS, Kind.POSTFIX_INCREMENT, Kind.LEFT_SHIFT, Kind.AND,
        Kind.EQUAL_TO, Kind.NOT_EQUAL_TO, Kind.LESS_THAN, Kind.LESS_THAN_EQUAL, Kind.GREATER_THAN,
        Kind.GREATER_THAN_EQUAL);

    private static final Set<Modifier> MODIFIERS =
        EnumSet.of(Modifier.PUBLIC, Modifier.PRIVATE, Modifier.STATIC, Modifier.FINAL);

    private static final String NO_METHOD = "";

    private final CompilationUnitTree unit;
    private final SourcePositions positions;

    private final Set<String> constants = new TreeSet<>();
    private final Map<String, Set<String>> calls = new TreeMap<>();
    /** The counters and bounds of the loops around the place that is being read. */
    private final Deque<String> counting = new ArrayDeque<>();
    private String method = NO_METHOD;
    private int fields = 0;
    private boolean insideArguments = false;

    private LanguageTest(CompilationUnitTree unit, SourcePositions positions) {
        this.unit = unit;
        this.positions = positions;
    }

    public static void main(String[] args) throws IOException {
        JavaCompiler compiler = ToolProvider.getSystemJavaCompiler();
        StandardJavaFileManager files = compiler.getStandardFileManager(null, null, null);
        JavacTask task = (JavacTask) compiler.getTask(
            null, files, null, null, null, files.getJavaFileObjects(SOURCE));
        for (CompilationUnitTree unit : task.parse()) {
            new LanguageTest(unit, Trees.instance(task).getSourcePositions()).read();
        }
        due.end();
    }

    private void read() {
        due.is("classes in the file", 1, unit.getTypeDecls().size());
        scan(unit, null);
        due.is("fields beside constants are forty at most", true, fields <= 40);
        due.is("methods were read", true, calls.size() > 17);
        for (String name : calls.keySet()) {
            due.is("calls from " + name + " go six deep at most", true, depth(name, new TreeSet<>()) <= 6);
        }
    }

    private long line(Tree tree) {
        return unit.getLineMap().getLineNumber(positions.getStartPosition(unit, tree));
    }

    private void rule(int number, String words, boolean kept, Tree tree) {
        due.is("line " + line(tree) + ", rule " + number + ": " + words, true, kept);
    }

    @Override
    public Void scan(Tree tree, Void none) {
        if (tree != null) {
            Kind kind = tree.getKind();
            due.is("line " + line(tree) + ": " + kind + " is among the parts in use", true, USED.contains(kind));
        }
        return super.scan(tree, none);
    }

    @Override
    public Void visitModifiers(ModifiersTree modifiers, Void none) {
        rule(6, "no modifiers but these", MODIFIERS.containsAll(modifiers.getFlags()), modifiers);
        return super.visitModifiers(modifiers, none);
    }

    @Override
    public Void visitBlock(BlockTree block, Void none) {
        rule(5, "no initialiser beside the fields' own", !method.equals(NO_METHOD), block);
        return super.visitBlock(block, none);
    }

    @Override
    public Void visitPrimitiveType(PrimitiveTypeTree type, Void none) {
        TypeKind kind = type.getPrimitiveTypeKind();
        rule(2, "whole numbers alone", kind != TypeKind.FLOAT && kind != TypeKind.DOUBLE, type);
        return super.visitPrimitiveType(type, none);
    }

    @Override
    public Void visitVariable(VariableTree variable, Void none) {
        Set<Modifier> modifiers = variable.getModifiers().getFlags();
        Kind type = variable.getType().getKind();
        boolean array = type == Kind.ARRAY_TYPE;
        rule(2, "numbers and arrays", array || type == Kind.PRIMITIVE_TYPE, variable);
        rule(4, "only fields name arrays, and each one for good",
            !array || method.equals(NO_METHOD) && modifiers.contains(Modifier.FINAL), variable);
        if (modifiers.contains(Modifier.STATIC)) {
            constants.add(variable.getName().toString());
        } else if (method.equals(NO_METHOD)) {
            fields++;
        }
        return super.visitVariable(variable, none);
    }

    @Override
    public Void visitNewArray(NewArrayTree made, Void none) {
        rule(4, "made in a field's initialiser", method.equals(NO_METHOD), made);
        rule(4, "one dimension, and a length", made.getDimensions().size() == 1, made);
        for (ExpressionTree length : made.getDimensions()) {
            rule(4, "the length is a constant", constants.contains(length.toString()), made);
        }
        return super.visitNewArray(made, none);
    }

    @Override
    public Void visitMethod(MethodTree read, Void none) {
        Tree answer = read.getReturnType();
        rule(2, "answers a number or nothing", answer == null || answer.getKind() == Kind.PRIMITIVE_TYPE, read);
        long end = unit.getLineMap().getLineNumber(positions.getEndPosition(unit, read));
        rule(10, "some sixty lines", end - line(read) < 60, read);
        method = read.getName().toString();
        calls.putIfAbsent(method, new TreeSet<>());
        super.visitMethod(read, none);
        method = NO_METHOD;
        return null;
    }

    @Override
    public Void visitMethodInvocation(MethodInvocationTree call, Void none) {
        rule(10, "no call inside the arguments of another", !insideArguments, call);
        calls.computeIfAbsent(method, name -> new TreeSet<>()).add(call.getMethodSelect().toString());
        scan(call.getMethodSelect(), none);
        boolean before = insideArguments;
        insideArguments = true;
        scan(call.getArguments(), none);
        insideArguments = before;
        return null;
    }

    @Override
    public Void visitForLoop(ForLoopTree loop, Void none) {
        boolean counts = loop.getInitializer().size() == 1 && loop.getUpdate().size() == 1
            && loop.getInitializer().get(0) instanceof VariableTree
            && loop.getCondition() != null && loop.getCondition().getKind() == Kind.LESS_THAN;
        rule(8, "a counter and a bound", counts, loop);
        if (!counts) {
            return super.visitForLoop(loop, none);
        }
        BinaryTree condition = (BinaryTree) loop.getCondition();
        String counter = ((VariableTree) loop.getInitializer().get(0)).getName().toString();
        rule(8, "the counter is counted", loop.getUpdate().get(0).toString().equals(counter + "++;"), loop);
        rule(8, "the counter is held against the bound", condition.getLeftOperand().toString().equals(counter), loop);
        rule(8, "the bound is a name", condition.getRightOperand().getKind() == Kind.IDENTIFIER, loop);
        scan(loop.getInitializer(), none);
        scan(condition, none);
        scan(loop.getUpdate(), none);
        counting.push(counter);
        counting.push(condition.getRightOperand().toString());
        scan(loop.getStatement(), none);
        counting.pop();
        counting.pop();
        return null;
    }

    private void changes(ExpressionTree target, Tree tree) {
        rule(8, "a loop leaves its counter and bound alone", !counting.contains(target.toString()), tree);
    }

    @Override
    public Void visitAssignment(AssignmentTree assignment, Void none) {
        changes(assignment.getVariable(), assignment);
        return super.visitAssignment(assignment, none);
    }

    @Override
    public Void visitCompoundAssignment(CompoundAssignmentTree assignment, Void none) {
        changes(assignment.getVariable(), assignment);
        return super.visitCompoundAssignment(assignment, none);
    }

    @Override
    public Void visitUnary(UnaryTree unary, Void none) {
        if (unary.getKind() == Kind.POSTFIX_INCREMENT) {
            changes(unary.getExpression(), unary);
        }
        return super.visitUnary(unary, none);
    }

    /** How many methods stand on the longest way down from this one, with itself. */
    private int depth(String name, Set<String> above) {
        due.is("rule 3: " + name + " is a method of the class", true, calls.containsKey(name));
        due.is("rule 8: no recursion through " + name, false, above.contains(name));
        int deepest = 0;
        if (above.add(name)) {
            for (String called : calls.getOrDefault(name, Set.of())) {
                deepest = Math.max(deepest, depth(called, above));
            }
            above.remove(name);
        }
        return deepest + 1;
    }
}
