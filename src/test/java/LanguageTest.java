import com.sun.source.tree.ArrayAccessTree;
import com.sun.source.tree.ArrayTypeTree;
import com.sun.source.tree.AssignmentTree;
import com.sun.source.tree.BinaryTree;
import com.sun.source.tree.ClassTree;
import com.sun.source.tree.CompilationUnitTree;
import com.sun.source.tree.CompoundAssignmentTree;
import com.sun.source.tree.ExpressionTree;
import com.sun.source.tree.ForLoopTree;
import com.sun.source.tree.IdentifierTree;
import com.sun.source.tree.MethodInvocationTree;
import com.sun.source.tree.MethodTree;
import com.sun.source.tree.NewArrayTree;
import com.sun.source.tree.PrimitiveTypeTree;
import com.sun.source.tree.Tree;
import com.sun.source.tree.Tree.Kind;
import com.sun.source.tree.UnaryTree;
import com.sun.source.tree.VariableTree;
import com.sun.source.util.JavacTask;
import com.sun.source.util.SourcePositions;
import com.sun.source.util.TreeScanner;
import com.sun.source.util.Trees;
import java.io.IOException;
import java.nio.file.Path;
import java.util.EnumSet;
import java.util.HashMap;
import java.util.HashSet;
import java.util.List;
import java.util.Map;
import java.util.Set;
import java.util.TreeMap;
import java.util.TreeSet;
import javax.lang.model.element.Modifier;
import javax.lang.model.type.TypeKind;
import javax.tools.JavaCompiler;
import javax.tools.StandardJavaFileManager;
import javax.tools.ToolProvider;

/**
 * The program's source keeps to LANGUAGE.md, rule by rule. It is held to somewhat less than the
 * rules leave: a form that the program has no use for is not let in here either.
 */
final class LanguageTest extends TreeScanner<Void, Void> {
    private static final Path SOURCE = Path.of("src/main/java/ReshapeArray.java");
    private static final int MOST_PARAMETERS = 7;
    private static final int MOST_LINES = 60;
    private static final int MOST_FIELDS = 40;
    private static final int DEEPEST = 6;

    private static final Set<Kind> FORMS = EnumSet.of(
        Kind.CLASS, Kind.METHOD, Kind.VARIABLE, Kind.MODIFIERS, Kind.PRIMITIVE_TYPE,
        Kind.ARRAY_TYPE, Kind.NEW_ARRAY, Kind.BLOCK, Kind.IF, Kind.FOR_LOOP, Kind.RETURN,
        Kind.EXPRESSION_STATEMENT, Kind.METHOD_INVOCATION, Kind.IDENTIFIER, Kind.ARRAY_ACCESS,
        Kind.PARENTHESIZED, Kind.CONDITIONAL_EXPRESSION, Kind.INT_LITERAL, Kind.BOOLEAN_LITERAL,
        Kind.UNARY_MINUS, Kind.LOGICAL_COMPLEMENT, Kind.POSTFIX_INCREMENT, Kind.ASSIGNMENT,
        Kind.PLUS_ASSIGNMENT, Kind.XOR_ASSIGNMENT, Kind.PLUS, Kind.MINUS, Kind.MULTIPLY,
        Kind.DIVIDE, Kind.REMAINDER, Kind.XOR, Kind.CONDITIONAL_AND, Kind.CONDITIONAL_OR,
        Kind.EQUAL_TO, Kind.NOT_EQUAL_TO, Kind.LESS_THAN, Kind.LESS_THAN_EQUAL,
        Kind.GREATER_THAN, Kind.GREATER_THAN_EQUAL);
    private static final Set<TypeKind> TYPES = EnumSet.of(TypeKind.INT, TypeKind.LONG,
        TypeKind.SHORT, TypeKind.BYTE, TypeKind.CHAR, TypeKind.BOOLEAN, TypeKind.VOID);

    private final CompilationUnitTree unit;
    private final SourcePositions positions;
    private final Map<String, Integer> constants = new HashMap<>();
    private final Set<String> fields = new HashSet<>();
    private final Map<String, Set<String>> calls = new TreeMap<>();
    private final Set<String> arrays = new HashSet<>();
    private final Set<Tree> fieldArrays = new HashSet<>();
    private Set<String> callsOfThisMethod;
    private boolean inArguments = false;

    private LanguageTest(CompilationUnitTree unit, SourcePositions positions) {
        this.unit = unit;
        this.positions = positions;
    }

    public static void main(String[] args) throws IOException {
        JavaCompiler compiler = ToolProvider.getSystemJavaCompiler();
        try (StandardJavaFileManager files = compiler.getStandardFileManager(null, null, null)) {
            JavacTask task = (JavacTask) compiler.getTask(null, files, null, null, null,
                files.getJavaFileObjects(SOURCE));
            CompilationUnitTree unit = task.parse().iterator().next();
            new LanguageTest(unit, Trees.instance(task).getSourcePositions()).checkUnit();
        }
        Due.finish();
    }

    private void due(int rule, String what, Tree where, boolean holds) {
        Due.due("rule " + rule + ", line " + firstLine(where) + ": " + what, holds ? 1 : 0, 1);
    }

    private long firstLine(Tree tree) {
        return unit.getLineMap().getLineNumber(positions.getStartPosition(unit, tree));
    }

    private long lastLine(Tree tree) {
        return unit.getLineMap().getLineNumber(positions.getEndPosition(unit, tree));
    }

    private void checkUnit() {
        Due.due("rule 1: package line", unit.getPackageName() == null ? 0 : 1, 0);
        Due.due("rule 3: imports", unit.getImports().size(), 0);
        Due.due("rule 1: classes", unit.getTypeDecls().size(), 1);
        ClassTree type = (ClassTree) unit.getTypeDecls().get(0);
        checkMembers(type);
        scan(type.getMembers(), null);
        for (String method : calls.keySet()) {
            Due.due("rules 8 and 10: calls below " + method + " go at most six deep",
                depth(method, 1) <= DEEPEST ? 1 : 0, 1);
        }
    }

    private void checkMembers(ClassTree type) {
        for (Tree member : type.getMembers()) {
            if (member instanceof MethodTree method) {
                calls.put(method.getName().toString(), new TreeSet<>());
            } else if (member instanceof VariableTree field) {
                boolean isStatic = field.getModifiers().getFlags().contains(Modifier.STATIC);
                if (!isStatic) {
                    fields.add(field.getName().toString());
                }
                checkField(field, isStatic);
            } else {
                due(1, "a member is a field or a method", member, false);
            }
        }
        Due.due("rule 10: at most forty fields", fields.size() <= MOST_FIELDS ? 1 : 0, 1);
    }

    private void checkField(VariableTree field, boolean isStatic) {
        ExpressionTree value = field.getInitializer();
        boolean isFinal = field.getModifiers().getFlags().contains(Modifier.FINAL);
        if (isStatic) {
            boolean number = field.getType() instanceof PrimitiveTypeTree && isFinal
                && value != null && value.toString().matches("-?\\d+");
            due(5, "a static field is a constant number", field, number);
            if (number) {
                constants.put(field.getName().toString(), Integer.parseInt(value.toString()));
            }
        }
        if (field.getType() instanceof ArrayTypeTree) {
            due(4, "an array is made with its field, for good", field, isFinal && value != null);
            arrays.add(field.getName().toString());
            fieldArrays.add(value);
        }
    }

    /** How deep calls go, this one counted; more than is allowed where a call comes back. */
    private int depth(String method, int above) {
        int deepest = 1;
        for (String called : calls.get(method)) {
            if (above > DEEPEST) {
                return deepest;
            }
            deepest = Math.max(deepest, 1 + depth(called, above + 1));
        }
        return deepest;
    }

    @Override
    public Void scan(Tree tree, Void nothing) {
        if (tree != null) {
            Due.due("line " + firstLine(tree) + ": the form " + tree.getKind() + " is let in",
                FORMS.contains(tree.getKind()) ? 1 : 0, 1);
        }
        return super.scan(tree, nothing);
    }

    @Override
    public Void visitMethod(MethodTree method, Void nothing) {
        callsOfThisMethod = calls.get(method.getName().toString());
        due(10, "a method stays short", method,
            lastLine(method) - firstLine(method) < MOST_LINES);
        due(10, "parameters", method, method.getParameters().size() <= MOST_PARAMETERS);
        due(4, "no method answers an array", method,
            method.getReturnType() == null || method.getReturnType() instanceof PrimitiveTypeTree);
        due(6, "no exception is declared", method, method.getThrows().isEmpty());
        return super.visitMethod(method, nothing);
    }

    @Override
    public Void visitVariable(VariableTree variable, Void nothing) {
        boolean isArray = arrays.contains(variable.getName().toString());
        due(2, "a variable is a number or true or false, but for the arrays", variable,
            isArray || variable.getType() instanceof PrimitiveTypeTree);
        return super.visitVariable(variable, nothing);
    }

    @Override
    public Void visitPrimitiveType(PrimitiveTypeTree type, Void nothing) {
        due(2, "type", type, TYPES.contains(type.getPrimitiveTypeKind()));
        return super.visitPrimitiveType(type, nothing);
    }

    @Override
    public Void visitArrayType(ArrayTypeTree type, Void nothing) {
        due(2, "an array has one dimension", type, type.getType() instanceof PrimitiveTypeTree);
        return super.visitArrayType(type, nothing);
    }

    @Override
    public Void visitNewArray(NewArrayTree made, Void nothing) {
        due(4, "an array is made with a field", made, fieldArrays.contains(made));
        List<? extends ExpressionTree> lengths = made.getDimensions();
        due(4, "its length is a constant, 1 or more", made,
            lengths.size() == 1 && constants.getOrDefault(lengths.get(0).toString(), 0) >= 1);
        return super.visitNewArray(made, nothing);
    }

    @Override
    public Void visitArrayAccess(ArrayAccessTree access, Void nothing) {
        due(4, "a cell of an array that is a field", access,
            arrays.contains(access.getExpression().toString()));
        return scan(access.getIndex(), nothing);
    }

    @Override
    public Void visitIdentifier(IdentifierTree name, Void nothing) {
        due(4, "an array is only named to reach a cell", name,
            !arrays.contains(name.getName().toString()));
        return super.visitIdentifier(name, nothing);
    }

    @Override
    public Void visitMethodInvocation(MethodInvocationTree call, Void nothing) {
        String name = call.getMethodSelect().toString();
        due(3, "calls a method of its own: " + name, call, calls.containsKey(name));
        due(10, "no call inside the arguments of another one", call, !inArguments);
        if (calls.containsKey(name)) {
            callsOfThisMethod.add(name);
        }
        boolean before = inArguments;
        inArguments = true;
        scan(call.getArguments(), nothing);
        inArguments = before;
        return null;
    }

    @Override
    public Void visitBinary(BinaryTree pair, Void nothing) {
        if (pair.getKind() == Kind.DIVIDE || pair.getKind() == Kind.REMAINDER) {
            due(7, "a divisor is a constant other than 0", pair,
                constants.getOrDefault(pair.getRightOperand().toString(), 0) != 0);
        }
        return super.visitBinary(pair, nothing);
    }

    @Override
    public Void visitForLoop(ForLoopTree loop, Void nothing) {
        boolean counts = loop.getInitializer().size() == 1 && loop.getUpdate().size() == 1
            && loop.getInitializer().get(0) instanceof VariableTree
            && loop.getCondition() != null && loop.getCondition().getKind() == Kind.LESS_THAN;
        due(8, "a loop has one counter and a bound", loop, counts);
        if (counts) {
            String counter = ((VariableTree) loop.getInitializer().get(0)).getName().toString();
            BinaryTree test = (BinaryTree) loop.getCondition();
            // A field could change in a method that the loop calls.
            due(8, "the bound is a name, not a field's", loop,
                test.getRightOperand() instanceof IdentifierTree bound
                    && !fields.contains(bound.getName().toString()));
            due(8, "the counter is what is looked at", loop,
                test.getLeftOperand().toString().equals(counter));
            due(8, "the counter goes up by one", loop,
                loop.getUpdate().get(0).toString().equals(counter + "++;"));
            Set<String> changed = changedIn(loop.getStatement());
            due(8, "neither changes inside", loop, !changed.contains(counter)
                && !changed.contains(test.getRightOperand().toString()));
        }
        return super.visitForLoop(loop, nothing);
    }

    private static Set<String> changedIn(Tree body) {
        Set<String> changed = new HashSet<>();
        new TreeScanner<Void, Void>() {
            @Override
            public Void visitAssignment(AssignmentTree tree, Void nothing) {
                changed.add(tree.getVariable().toString());
                return super.visitAssignment(tree, nothing);
            }

            @Override
            public Void visitCompoundAssignment(CompoundAssignmentTree tree, Void nothing) {
                changed.add(tree.getVariable().toString());
                return super.visitCompoundAssignment(tree, nothing);
            }

            @Override
            public Void visitUnary(UnaryTree tree, Void nothing) {
                changed.add(tree.getExpression().toString());
                return super.visitUnary(tree, nothing);
            }
        }.scan(body, null);
        return changed;
    }
}
