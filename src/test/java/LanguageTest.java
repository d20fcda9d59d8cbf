import com.sun.source.tree.ArrayTypeTree;
import com.sun.source.tree.AssertTree;
import com.sun.source.tree.AssignmentTree;
import com.sun.source.tree.BinaryTree;
import com.sun.source.tree.BlockTree;
import com.sun.source.tree.ClassTree;
import com.sun.source.tree.CompilationUnitTree;
import com.sun.source.tree.CompoundAssignmentTree;
import com.sun.source.tree.DoWhileLoopTree;
import com.sun.source.tree.EnhancedForLoopTree;
import com.sun.source.tree.ExpressionTree;
import com.sun.source.tree.ForLoopTree;
import com.sun.source.tree.IdentifierTree;
import com.sun.source.tree.InstanceOfTree;
import com.sun.source.tree.LambdaExpressionTree;
import com.sun.source.tree.LiteralTree;
import com.sun.source.tree.MemberReferenceTree;
import com.sun.source.tree.MemberSelectTree;
import com.sun.source.tree.MethodInvocationTree;
import com.sun.source.tree.MethodTree;
import com.sun.source.tree.NewArrayTree;
import com.sun.source.tree.NewClassTree;
import com.sun.source.tree.PrimitiveTypeTree;
import com.sun.source.tree.SynchronizedTree;
import com.sun.source.tree.ThrowTree;
import com.sun.source.tree.Tree;
import com.sun.source.tree.TryTree;
import com.sun.source.tree.TypeCastTree;
import com.sun.source.tree.UnaryTree;
import com.sun.source.tree.VariableTree;
import com.sun.source.tree.WhileLoopTree;
import com.sun.source.util.JavacTask;
import com.sun.source.util.SourcePositions;
import com.sun.source.util.TreeScanner;
import com.sun.source.util.Trees;
import java.nio.file.Path;
import java.util.HashSet;
import java.util.Map;
import java.util.Set;
import java.util.TreeMap;
import java.util.TreeSet;
import javax.lang.model.element.Modifier;
import javax.lang.model.type.TypeKind;
import javax.tools.JavaCompiler;
import javax.tools.StandardJavaFileManager;
import javax.tools.ToolProvider;

/**
 * The source keeps to the rules of ../shared/LANGUAGE.md, as far as its syntax tree shows; it is stricter where a looser
 * look would need more than the tree (every loop is a for loop, every array is made in a field's initialiser). What is
 * left to the reader is rule 7: that no index and no divisor goes wrong.
 */
public final class LanguageTest extends TreeScanner<Void, Void> {
    private static final String SOURCE = "src/main/java/IntegerPlan.java";
    private static final int MOST_PARAMETERS = 7;
    private static final int MOST_LINES = 60;
    private static final int MOST_DEPTH = 6;
    private static final int MOST_FIELDS = 40;

    private final CompilationUnitTree unit;
    private final SourcePositions positions;

    private final Set<String> methods = new TreeSet<>();
    private final Set<String> openMethods = new TreeSet<>();
    private final Set<String> constants = new TreeSet<>();
    private final Set<String> arrays = new TreeSet<>();
    private final Set<String> counters = new TreeSet<>();
    private final Map<String, Set<String>> calls = new TreeMap<>();

    private String method = "";
    private int callsAround = 0;
    private int fields = 0;
    private int wrong = 0;

    private LanguageTest(CompilationUnitTree unit, SourcePositions positions) {
        this.unit = unit;
        this.positions = positions;
    }

    public static void main(String[] args) throws Exception {
        JavaCompiler compiler = ToolProvider.getSystemJavaCompiler();
        try (StandardJavaFileManager files = compiler.getStandardFileManager(null, null, null)) {
            JavacTask task = (JavacTask) compiler.getTask(null, files, null, null, null,
                files.getJavaFileObjects(Path.of(SOURCE)));
            CompilationUnitTree unit = task.parse().iterator().next();
            LanguageTest test = new LanguageTest(unit, Trees.instance(task).getSourcePositions());
            test.checkUnit();
            System.out.println(test.wrong == 0 ? "the source keeps to its rules" : test.wrong + " breaches of the rules");
            if (test.wrong != 0) {
                System.exit(1);
            }
        }
    }

    private void checkUnit() {
        check(unit.getPackage() == null, 1, unit, "no package line");
        check(unit.getImports().isEmpty(), 3, unit, "nothing is imported");
        check(unit.getTypeDecls().size() == 1, 1, unit, "one class");
        ClassTree type = (ClassTree) unit.getTypeDecls().get(0);
        for (Tree member : type.getMembers()) {
            noteMember(member);
        }
        for (Tree member : type.getMembers()) {
            checkMember(member);
        }
        check(fields <= MOST_FIELDS, 10, type, "at most " + MOST_FIELDS + " fields");
        checkCalls(type);
    }

    private void check(boolean right, int rule, Tree where, String what) {
        if (!right) {
            wrong++;
            long line = unit.getLineMap().getLineNumber(positions.getStartPosition(unit, where));
            System.out.println(SOURCE + ":" + line + ": rule " + rule + ": " + what);
        }
    }

    private void noteMember(Tree member) {
        if (member instanceof MethodTree m) {
            boolean isNew = methods.add(m.getName().toString());
            check(isNew, 1, m, "each method has a name of its own");
            if (m.getModifiers().getFlags().contains(Modifier.PUBLIC)) {
                openMethods.add(m.getName().toString());
            }
        } else if (member instanceof VariableTree v && v.getModifiers().getFlags().contains(Modifier.STATIC)) {
            constants.add(v.getName().toString());
        } else if (member instanceof VariableTree) {
            fields++;
        }
    }

    private void checkMember(Tree member) {
        if (member instanceof VariableTree v) {
            checkField(v);
        } else if (member instanceof MethodTree m) {
            checkMethod(m);
        } else {
            check(false, member instanceof BlockTree ? 5 : 1, member, "a member is a field, a method or the constructor");
        }
    }

    private void checkField(VariableTree field) {
        Set<Modifier> flags = field.getModifiers().getFlags();
        method = "";
        if (flags.contains(Modifier.STATIC)) {
            check(flags.contains(Modifier.FINAL) && isWhole(field.getType()), 5, field, "a static field is a constant");
            scan(field, null);
        } else if (field.getType() instanceof ArrayTypeTree) {
            check(flags.contains(Modifier.PRIVATE), 1, field, "a field is private");
            // A final field needs no search for assignments.
            check(flags.contains(Modifier.FINAL), 4, field, "an array field is final");
            check(isPlain(field.getType()), 2, field, "an array of numbers or booleans");
            check(makesPlainArray(field.getInitializer()), 4, field, "an array is made in its field's initialiser");
            arrays.add(field.getName().toString());
        } else {
            check(flags.contains(Modifier.PRIVATE), 1, field, "a field is private");
            scan(field, null);
        }
    }

    private boolean makesPlainArray(ExpressionTree made) {
        if (!(made instanceof NewArrayTree array) || array.getInitializers() != null || array.getDimensions().size() != 1) {
            return false;
        }
        ExpressionTree length = array.getDimensions().get(0);
        return length instanceof LiteralTree || length instanceof IdentifierTree i && constants.contains(i.getName().toString());
    }

    private void checkMethod(MethodTree m) {
        method = m.getName().toString();
        calls.put(method, new TreeSet<>());
        check(m.getParameters().size() <= MOST_PARAMETERS, 10, m, "at most " + MOST_PARAMETERS + " parameters");
        long first = unit.getLineMap().getLineNumber(positions.getStartPosition(unit, m));
        long last = unit.getLineMap().getLineNumber(positions.getEndPosition(unit, m));
        check(last - first < MOST_LINES, 10, m, "at most " + MOST_LINES + " lines");
        Tree answer = m.getReturnType();
        check(answer == null || isVoid(answer) || answer instanceof PrimitiveTypeTree && isPlain(answer), 4, m,
            "a method answers a number, a boolean or nothing");
        scan(m.getParameters(), null);
        scan(m.getBody(), null);
    }

    private static boolean isVoid(Tree type) {
        return type instanceof PrimitiveTypeTree p && p.getPrimitiveTypeKind() == TypeKind.VOID;
    }

    private static boolean isWhole(Tree type) {
        return type instanceof PrimitiveTypeTree p
            && (p.getPrimitiveTypeKind() == TypeKind.INT || p.getPrimitiveTypeKind() == TypeKind.LONG);
    }

    private static boolean isPlain(Tree type) {
        Tree element = type instanceof ArrayTypeTree array ? array.getType() : type;
        return element instanceof PrimitiveTypeTree p && p.getPrimitiveTypeKind() != TypeKind.FLOAT
            && p.getPrimitiveTypeKind() != TypeKind.DOUBLE;
    }

    // ---- Rules 8 and 10: who calls whom

    private void checkCalls(Tree type) {
        for (String name : methods) {
            check(depth(name, new HashSet<>(), type) <= MOST_DEPTH, 10, type, "calls go at most six deep: " + name);
        }
    }

    private int depth(String name, Set<String> around, Tree type) {
        if (!around.add(name)) {
            check(false, 8, type, "no recursion: " + name);
            return 0;
        }
        int deepest = 0;
        for (String called : calls.getOrDefault(name, Set.of())) {
            deepest = Math.max(deepest, depth(called, around, type));
        }
        around.remove(name);
        return deepest + 1;
    }

    @Override
    public Void visitMethodInvocation(MethodInvocationTree call, Void none) {
        String called = call.getMethodSelect().toString();
        check(methods.contains(called), 3, call, "a call is of a method of this class: " + called);
        check(!openMethods.contains(called), 1, call, "a call is of a private method: " + called);
        check(callsAround == 0, 10, call, "no call stands in the arguments of another: " + called);
        calls.computeIfAbsent(method, m -> new TreeSet<>()).add(called);
        callsAround++;
        scan(call.getArguments(), null);
        callsAround--;
        return null;
    }

    // ---- Rules 2 to 4: types, names and arrays

    @Override
    public Void visitVariable(VariableTree variable, Void none) {
        check(variable.getType() != null && isPlain(variable.getType()), 2, variable,
            "a number or a boolean, or an array of these: " + variable.getName());
        if (variable.getType() instanceof ArrayTypeTree) {
            arrays.add(variable.getName().toString());
        }
        scan(variable.getInitializer(), null);
        return null;
    }

    @Override
    public Void visitLiteral(LiteralTree literal, Void none) {
        Object value = literal.getValue();
        check(value instanceof Integer || value instanceof Long || value instanceof Boolean || value instanceof Character, 2,
            literal, "a literal is a whole number, a character or a boolean");
        return null;
    }

    @Override
    public Void visitMemberSelect(MemberSelectTree select, Void none) {
        check(false, 3, select, "nothing is asked of an object: " + select);
        return null;
    }

    @Override
    public Void visitNewArray(NewArrayTree made, Void none) {
        check(false, 4, made, "an array is made in its field's initialiser");
        return null;
    }

    @Override
    public Void visitNewClass(NewClassTree made, Void none) {
        check(false, 4, made, "no object is made");
        return null;
    }

    @Override
    public Void visitClass(ClassTree nested, Void none) {
        check(false, 1, nested, "no class within a method");
        return null;
    }

    @Override
    public Void visitBinary(BinaryTree binary, Void none) {
        boolean ofArray = arrays.contains(binary.getLeftOperand().toString())
            || arrays.contains(binary.getRightOperand().toString());
        check(!ofArray, 4, binary, "no array is compared");
        return super.visitBinary(binary, null);
    }

    // ---- Rule 6

    @Override
    public Void visitTypeCast(TypeCastTree cast, Void none) {
        check(cast.getType() instanceof PrimitiveTypeTree && isPlain(cast.getType()), 6, cast, "a cast is to a number type");
        return super.visitTypeCast(cast, null);
    }

    @Override
    public Void visitThrow(ThrowTree tree, Void none) {
        check(false, 6, tree, "no throw");
        return null;
    }

    @Override
    public Void visitTry(TryTree tree, Void none) {
        check(false, 6, tree, "no try");
        return null;
    }

    @Override
    public Void visitSynchronized(SynchronizedTree tree, Void none) {
        check(false, 6, tree, "no synchronized");
        return null;
    }

    @Override
    public Void visitAssert(AssertTree tree, Void none) {
        check(false, 6, tree, "no assert");
        return null;
    }

    @Override
    public Void visitInstanceOf(InstanceOfTree tree, Void none) {
        check(false, 6, tree, "no instanceof");
        return null;
    }

    @Override
    public Void visitLambdaExpression(LambdaExpressionTree tree, Void none) {
        check(false, 6, tree, "no lambda");
        return null;
    }

    @Override
    public Void visitMemberReference(MemberReferenceTree tree, Void none) {
        check(false, 6, tree, "no method reference");
        return null;
    }

    // ---- Rule 8 and the rest of rule 4: loops, and what is set

    @Override
    public Void visitForLoop(ForLoopTree loop, Void none) {
        String counter = counter(loop);
        String condition = String.valueOf(loop.getCondition());
        check(condition.matches(counter + "( \\+ 1)? <=? .*") && !condition.contains("||"), 8, loop,
            "a loop counts up to a bound");
        scan(loop.getInitializer(), null);
        scan(loop.getCondition(), null);
        boolean isNew = counters.add(counter);
        scan(loop.getStatement(), null);
        if (isNew) {
            counters.remove(counter);
        }
        return null;
    }

    /** The one variable that the loop makes and counts up; "?", which no condition begins with, if it isn't so. */
    private static String counter(ForLoopTree loop) {
        boolean isOne = loop.getInitializer().size() == 1 && loop.getUpdate().size() == 1;
        if (isOne && loop.getInitializer().get(0) instanceof VariableTree v
            && loop.getUpdate().get(0).getExpression().toString().equals(v.getName() + "++")) {
            return v.getName().toString();
        }
        return "\\?";
    }

    private void checkSet(ExpressionTree variable, Tree where) {
        check(!counters.contains(variable.toString()), 8, where, "a loop's counter is set by the loop alone");
        check(!arrays.contains(variable.toString()), 4, where, "no array is assigned");
    }

    @Override
    public Void visitAssignment(AssignmentTree assignment, Void none) {
        checkSet(assignment.getVariable(), assignment);
        return super.visitAssignment(assignment, null);
    }

    @Override
    public Void visitCompoundAssignment(CompoundAssignmentTree assignment, Void none) {
        checkSet(assignment.getVariable(), assignment);
        return super.visitCompoundAssignment(assignment, null);
    }

    @Override
    public Void visitUnary(UnaryTree unary, Void none) {
        if (unary.toString().contains("++") || unary.toString().contains("--")) {
            checkSet(unary.getExpression(), unary);
        }
        return super.visitUnary(unary, null);
    }

    @Override
    public Void visitWhileLoop(WhileLoopTree loop, Void none) {
        check(false, 8, loop, "a loop is a for loop");
        return null;
    }

    @Override
    public Void visitDoWhileLoop(DoWhileLoopTree loop, Void none) {
        check(false, 8, loop, "a loop is a for loop");
        return null;
    }

    @Override
    public Void visitEnhancedForLoop(EnhancedForLoopTree loop, Void none) {
        check(false, 8, loop, "a loop counts");
        return null;
    }
}
