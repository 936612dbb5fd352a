import com.sun.source.tree.AssignmentTree;
import com.sun.source.tree.BinaryTree;
import com.sun.source.tree.ClassTree;
import com.sun.source.tree.CompilationUnitTree;
import com.sun.source.tree.CompoundAssignmentTree;
import com.sun.source.tree.ForLoopTree;
import com.sun.source.tree.IdentifierTree;
import com.sun.source.tree.MethodInvocationTree;
import com.sun.source.tree.MethodTree;
import com.sun.source.tree.NewArrayTree;
import com.sun.source.tree.Tree;
import com.sun.source.tree.Tree.Kind;
import com.sun.source.tree.UnaryTree;
import com.sun.source.tree.VariableTree;
import com.sun.source.util.JavacTask;
import com.sun.source.util.SourcePositions;
import com.sun.source.util.TreeScanner;
import com.sun.source.util.Trees;
import java.io.IOException;
import java.nio.file.Path;
import java.util.HashMap;
import java.util.HashSet;
import java.util.List;
import java.util.Map;
import java.util.Set;
import javax.tools.JavaCompiler;
import javax.tools.StandardJavaFileManager;
import javax.tools.ToolProvider;

/**
 * The rules of LANGUAGE.md that the source shows, read from javac's tree of it.
 * What the class may use is listed here, so all else is found, also where a
 * rule would leave more: no other loop than for, no name behind a dot.
 */
public final class LanguageTest extends TreeScanner<Void, Void> {
    private static final Path SOURCE = Path.of("src/main/java/LinkScript.java");
    private static final int MAX_LINES = 60;
    private static final int MAX_DEPTH = 6;
    private static final int MAX_PARAMETERS = 7;
    private static final Set<String> TYPES = Set.of("int", "long", "boolean", "int[]", "long[]", "boolean[]");
    private static final Set<Kind> KINDS = Set.of(
            Kind.COMPILATION_UNIT, Kind.CLASS, Kind.METHOD, Kind.VARIABLE, Kind.MODIFIERS,
            Kind.PRIMITIVE_TYPE, Kind.ARRAY_TYPE, Kind.NEW_ARRAY,
            Kind.BLOCK, Kind.IF, Kind.FOR_LOOP, Kind.SWITCH, Kind.CASE, Kind.RETURN, Kind.BREAK, Kind.CONTINUE,
            Kind.EXPRESSION_STATEMENT, Kind.METHOD_INVOCATION, Kind.ASSIGNMENT, Kind.PLUS_ASSIGNMENT,
            Kind.IDENTIFIER, Kind.ARRAY_ACCESS, Kind.PARENTHESIZED, Kind.CONDITIONAL_EXPRESSION,
            Kind.INT_LITERAL, Kind.LONG_LITERAL, Kind.BOOLEAN_LITERAL,
            Kind.PLUS, Kind.MINUS, Kind.AND, Kind.RIGHT_SHIFT, Kind.UNARY_MINUS, Kind.LOGICAL_COMPLEMENT,
            Kind.POSTFIX_INCREMENT, Kind.CONDITIONAL_AND, Kind.CONDITIONAL_OR,
            Kind.LESS_THAN, Kind.LESS_THAN_EQUAL, Kind.GREATER_THAN, Kind.GREATER_THAN_EQUAL,
            Kind.EQUAL_TO, Kind.NOT_EQUAL_TO);

    private final CompilationUnitTree unit;
    private final SourcePositions positions;
    private final Set<String> arrays = new HashSet<>();
    private final Map<String, Set<String>> callsOf = new HashMap<>();
    private String method;
    private boolean inArguments;
    private int expressionsSeen;

    private LanguageTest(CompilationUnitTree unit, SourcePositions positions) {
        this.unit = unit;
        this.positions = positions;
    }

    public static void main(String[] args) throws IOException {
        JavaCompiler compiler = ToolProvider.getSystemJavaCompiler();
        try (StandardJavaFileManager files = compiler.getStandardFileManager(null, null, null)) {
            JavacTask task = (JavacTask) compiler.getTask(null, files, null, null, null,
                    files.getJavaFileObjects(SOURCE));
            CompilationUnitTree unit = task.parse().iterator().next();
            new LanguageTest(unit, Trees.instance(task).getSourcePositions()).readAll();
        }
        Check.finish();
    }

    private void readAll() {
        isTrue("no package line", unit.getPackageName() == null);
        isTrue("nothing is imported", unit.getImports().isEmpty());
        isTrue("one class", unit.getTypeDecls().size() == 1);
        List<? extends Tree> members = ((ClassTree) unit.getTypeDecls().get(0)).getMembers();
        for (Tree member : members) {
            if (member instanceof MethodTree m) {
                boolean isFirst = callsOf.put(m.getName().toString(), new HashSet<>()) == null;
                isTrue("one method of the name " + m.getName(), isFirst);
            } else {
                isTrue("a field or a method: " + member.getKind(), member instanceof VariableTree);
            }
        }
        scan(unit, null);
        isTrue("the tree was read", expressionsSeen > 1000);
        for (String name : callsOf.keySet()) {
            int depth = depth(name, 1);
            isTrue("calls go at most six deep from " + name + ": " + depth, depth <= MAX_DEPTH);
        }
    }

    private static void isTrue(String rule, boolean holds) {
        Check.due(rule, holds ? 1 : 0, 1);
    }

    // A recursion is deeper than any limit, so the search stops there.
    private int depth(String name, int depth) {
        int deepest = depth;
        if (depth <= MAX_DEPTH) {
            for (String called : callsOf.get(name)) {
                deepest = Math.max(deepest, depth(called, depth + 1));
            }
        }
        return deepest;
    }

    private long line(long position) {
        return unit.getLineMap().getLineNumber(position);
    }

    private String at(Tree t) {
        return " in line " + line(positions.getStartPosition(unit, t)) + ": " + t;
    }

    @Override
    public Void scan(Tree t, Void v) {
        if (t != null) {
            expressionsSeen++;
            isTrue("allowed: " + t.getKind() + at(t), KINDS.contains(t.getKind()));
        }
        return super.scan(t, v);
    }

    @Override
    public Void visitVariable(VariableTree t, Void v) {
        isTrue("type" + at(t), TYPES.contains(t.getType().toString()));
        boolean isField = method == null;
        if (t.getType().getKind() == Kind.ARRAY_TYPE) {
            arrays.add(t.getName().toString());
            isTrue("array is made in its field" + at(t), isField && t.getInitializer() instanceof NewArrayTree);
        } else {
            isTrue("no array is made here" + at(t), !(t.getInitializer() instanceof NewArrayTree));
        }
        return super.visitVariable(t, v);
    }

    @Override
    public Void visitNewArray(NewArrayTree t, Void v) {
        isTrue("array is made in a field" + at(t), method == null);
        boolean plain = t.getDimensions().size() == 1 && t.getDimensions().get(0) instanceof IdentifierTree;
        isTrue("length is a constant" + at(t), plain && t.getDimensions().get(0).toString().matches("[A-Z_]+"));
        return super.visitNewArray(t, v);
    }

    @Override
    public Void visitMethod(MethodTree t, Void v) {
        method = t.getName().toString();
        long lines = line(positions.getEndPosition(unit, t)) - line(positions.getStartPosition(unit, t)) + 1;
        isTrue("lines of " + method + ": " + lines, lines <= MAX_LINES);
        isTrue("parameters of " + method, t.getParameters().size() <= MAX_PARAMETERS);
        boolean isConstructor = t.getReturnType() == null;
        isTrue("no array from " + method, isConstructor || t.getReturnType().getKind() == Kind.PRIMITIVE_TYPE);
        super.visitMethod(t, v);
        method = null;
        return null;
    }

    @Override
    public Void visitMethodInvocation(MethodInvocationTree t, Void v) {
        isTrue("no call inside the arguments of another" + at(t), !inArguments);
        String called = t.getMethodSelect().toString();
        // The constructor's call of Object's is javac's own.
        if (!called.equals("super")) {
            isTrue("a method of the class" + at(t), callsOf.containsKey(called));
            isTrue("the call stands in a method" + at(t), method != null);
            callsOf.get(method).add(called);
        }
        inArguments = true;
        scan(t.getArguments(), v);
        inArguments = false;
        return scan(t.getMethodSelect(), v);
    }

    @Override
    public Void visitBinary(BinaryTree t, Void v) {
        isTrue("no array is compared" + at(t), !isArray(t.getLeftOperand()) && !isArray(t.getRightOperand()));
        return super.visitBinary(t, v);
    }

    private boolean isArray(Tree t) {
        return arrays.contains(t.toString());
    }

    @Override
    public Void visitForLoop(ForLoopTree t, Void v) {
        VariableTree counter = (VariableTree) t.getInitializer().get(0);
        String name = counter.getName().toString();
        BinaryTree condition = (BinaryTree) t.getCondition();
        boolean upward = condition.getKind() == Kind.LESS_THAN && condition.getLeftOperand().toString().equals(name);
        isTrue("a counter against a bound" + at(t), upward && condition.getRightOperand() instanceof IdentifierTree);
        boolean byOne = t.getUpdate().size() == 1 && t.getUpdate().get(0).toString().matches(name + "\\+\\+;?");
        isTrue("the counter goes up by one" + at(t), byOne);
        String bound = condition.getRightOperand().toString();
        Set<String> set = new HashSet<>();
        namesSetIn(t.getStatement(), set);
        isTrue("counter and bound stay as they are" + at(t), !set.contains(name) && !set.contains(bound));
        return super.visitForLoop(t, v);
    }

    private static void namesSetIn(Tree body, Set<String> names) {
        new TreeScanner<Void, Void>() {
            @Override
            public Void visitAssignment(AssignmentTree t, Void v) {
                names.add(t.getVariable().toString());
                return super.visitAssignment(t, v);
            }

            @Override
            public Void visitCompoundAssignment(CompoundAssignmentTree t, Void v) {
                names.add(t.getVariable().toString());
                return super.visitCompoundAssignment(t, v);
            }

            @Override
            public Void visitUnary(UnaryTree t, Void v) {
                if (t.getKind() == Kind.POSTFIX_INCREMENT) {
                    names.add(t.getExpression().toString());
                }
                return super.visitUnary(t, v);
            }
        }.scan(body, null);
    }
}
