import com.sun.source.tree.ArrayTypeTree;
import com.sun.source.tree.AssignmentTree;
import com.sun.source.tree.BinaryTree;
import com.sun.source.tree.ClassTree;
import com.sun.source.tree.CompilationUnitTree;
import com.sun.source.tree.ExpressionTree;
import com.sun.source.tree.ForLoopTree;
import com.sun.source.tree.IdentifierTree;
import com.sun.source.tree.LiteralTree;
import com.sun.source.tree.MemberSelectTree;
import com.sun.source.tree.MethodInvocationTree;
import com.sun.source.tree.MethodTree;
import com.sun.source.tree.NewArrayTree;
import com.sun.source.tree.PrimitiveTypeTree;
import com.sun.source.tree.Tree;
import com.sun.source.tree.Tree.Kind;
import com.sun.source.tree.VariableTree;
import com.sun.source.util.JavacTask;
import com.sun.source.util.SourcePositions;
import com.sun.source.util.TreeScanner;
import com.sun.source.util.Trees;
import java.nio.file.Path;
import java.util.ArrayList;
import java.util.HashMap;
import java.util.HashSet;
import java.util.List;
import java.util.Map;
import java.util.Set;
import javax.lang.model.element.Modifier;
import javax.lang.model.type.TypeKind;
import javax.tools.JavaCompiler;
import javax.tools.ToolProvider;

/**
 * The rules of LANGUAGE.md that can be read off the source, whose path is the argument; rule 7 is
 * left to the tests that make calls. Where that is simpler it is stricter than they are: for loops
 * alone, every array a final field, no local variable that names one, no name used twice for a
 * method, and nothing behind a dot.
 */
public final class LanguageTest extends TreeScanner<Void, Void> {
    private static final Set<Kind> FORBIDDEN = Set.of(
        Kind.IMPORT, Kind.PACKAGE, Kind.ANNOTATION, Kind.ENUM, Kind.INTERFACE, Kind.RECORD, Kind.ANNOTATION_TYPE,
        Kind.THROW, Kind.TRY, Kind.SYNCHRONIZED, Kind.ASSERT, Kind.INSTANCE_OF, Kind.LAMBDA_EXPRESSION,
        Kind.MEMBER_REFERENCE, Kind.NEW_CLASS, Kind.STRING_LITERAL, Kind.NULL_LITERAL,
        Kind.FLOAT_LITERAL, Kind.DOUBLE_LITERAL, Kind.PARAMETERIZED_TYPE, Kind.WHILE_LOOP,
        Kind.DO_WHILE_LOOP, Kind.ENHANCED_FOR_LOOP);
    private static final Set<TypeKind> TYPES = Set.of(TypeKind.INT, TypeKind.LONG, TypeKind.SHORT,
        TypeKind.BYTE, TypeKind.CHAR, TypeKind.BOOLEAN);
    private static final Set<TypeKind> CONSTANT_TYPES = Set.of(TypeKind.INT, TypeKind.LONG);
    private static final Set<Modifier> MODIFIERS = Set.of(Modifier.PUBLIC, Modifier.PRIVATE, Modifier.STATIC);
    private static final Set<Kind> BELOW = Set.of(Kind.LESS_THAN, Kind.LESS_THAN_EQUAL);
    private static final Set<Kind> ABOVE = Set.of(Kind.GREATER_THAN, Kind.GREATER_THAN_EQUAL);
    private static final int MOST_FIELDS = 40;
    private static final int MOST_LINES = 60;
    private static final int MOST_PARAMETERS = 7;
    private static final int DEEPEST = 6;

    private final Due due = new Due();
    private final Map<String, Changes> methods = new HashMap<>();
    private final Map<String, Integer> constants = new HashMap<>();
    private final Set<Tree> fieldArrays = new HashSet<>();
    private final Set<String> arrayNames = new HashSet<>();
    private final Set<String> names = new HashSet<>();
    private final List<ForLoopTree> loops = new ArrayList<>();
    private final CompilationUnitTree unit;
    private final SourcePositions positions;
    private boolean inMethod = false;

    private LanguageTest(CompilationUnitTree unit, SourcePositions positions) {
        this.unit = unit;
        this.positions = positions;
    }

    public static void main(String[] args) throws Exception {
        JavaCompiler compiler = ToolProvider.getSystemJavaCompiler();
        var files = compiler.getStandardFileManager(null, null, null);
        var sources = files.getJavaFileObjects(Path.of(args[0]));
        var task = (JavacTask) compiler.getTask(null, files, null, null, null, sources);
        CompilationUnitTree unit = task.parse().iterator().next();
        LanguageTest test = new LanguageTest(unit, Trees.instance(task).getSourcePositions());
        test.whole();
        test.due.end("LanguageTest");
    }

    private long line(long position) {
        return unit.getLineMap().getLineNumber(position);
    }

    private void holds(String rule, Tree where, boolean held) {
        due.yes("rule " + rule + ", line " + line(positions.getStartPosition(unit, where)), held);
    }

    private void whole() {
        due.is("rule 1, the classes", unit.getTypeDecls().size(), 1);
        ClassTree program = (ClassTree) unit.getTypeDecls().get(0);
        Set<Modifier> modifiers = program.getModifiers().getFlags();
        holds("1 (the class)", program, modifiers.equals(Set.of(Modifier.PUBLIC, Modifier.FINAL))
            && program.getExtendsClause() == null && program.getImplementsClause().isEmpty());
        members(program);
        scan(unit, null);
        for (String name : methods.keySet()) {
            due.yes("rules 8 and 10, the calls of " + name + " are at most six deep", depth(name, 0) <= DEEPEST);
        }
        for (ForLoopTree loop : loops) {
            holds("8 (a counter against a bound)", loop, hasItsEnd(loop));
        }
    }

    /** What is declared, because a use may stand before it. */
    private void members(ClassTree program) {
        int fields = 0;
        for (Tree member : program.getMembers()) {
            if (member instanceof VariableTree field) {
                fields += isBesideConstants(field) ? 1 : 0;
            } else if (member instanceof MethodTree method) {
                boolean once = methods.put(method.getName().toString(), Changes.in(method)) == null;
                holds("1 (a method's name is used once)", member, once);
                Set<Modifier> modifiers = method.getModifiers().getFlags();
                boolean told = modifiers.contains(Modifier.PUBLIC) || modifiers.contains(Modifier.PRIVATE);
                holds("1 or 6 (a method's modifiers)", member, told && MODIFIERS.containsAll(modifiers));
            } else {
                holds("1 or 5 (" + member.getKind() + ")", member, false);
            }
        }
        due.yes("rule 10, " + fields + " fields", fields <= MOST_FIELDS);
    }

    private boolean isBesideConstants(VariableTree field) {
        Set<Modifier> modifiers = field.getModifiers().getFlags();
        holds("1 (a field is private)", field, modifiers.contains(Modifier.PRIVATE));
        boolean isFinal = modifiers.contains(Modifier.FINAL);
        ExpressionTree value = field.getInitializer();
        if (modifiers.contains(Modifier.STATIC)) {
            holds("5", field, isFinal && isConstant(field));
            int number = value instanceof LiteralTree literal && literal.getValue() instanceof Integer n ? n : 0;
            constants.put(field.getName().toString(), number);
            return false;
        }
        if (field.getType() instanceof ArrayTypeTree) {
            holds("4 (an array is a final field)", field, isFinal && value instanceof NewArrayTree);
            fieldArrays.add(value);
        }
        return true;
    }

    private static boolean isConstant(VariableTree field) {
        ExpressionTree value = field.getInitializer();
        boolean isLiteral = value instanceof LiteralTree || value != null && value.getKind() == Kind.UNARY_MINUS;
        return isLiteral && field.getType() instanceof PrimitiveTypeTree type
            && CONSTANT_TYPES.contains(type.getPrimitiveTypeKind());
    }

    /** A method that calls itself, directly or not, is stopped with too great a depth. */
    private int depth(String name, int above) {
        int deepest = 1;
        if (above < 2 * DEEPEST && methods.containsKey(name)) {
            for (String called : methods.get(name).calls) {
                deepest = Math.max(deepest, 1 + depth(called, above + 1));
            }
        }
        return deepest;
    }

    // Loops

    private boolean hasItsEnd(ForLoopTree loop) {
        boolean counted = loop.getInitializer().size() == 1 && loop.getUpdate().size() == 1
            && loop.getInitializer().get(0) instanceof VariableTree && loop.getCondition() != null;
        if (!counted) {
            return false;
        }
        String counter = ((VariableTree) loop.getInitializer().get(0)).getName().toString();
        String step = loop.getUpdate().get(0).toString().replace(";", "");
        boolean up = step.equals(counter + "++");
        boolean down = step.equals(counter + "--");
        Set<String> changed = changedBy(loop.getStatement());
        if (!up && !down || !changed.add(counter)) {
            return false;
        }
        return isBounded(loop.getCondition(), counter, up, changed);
    }

    /** Whether one of the conditions that have to hold together compares the counter with what stays. */
    private boolean isBounded(Tree condition, String counter, boolean up, Set<String> changed) {
        if (!(condition instanceof BinaryTree both)) {
            return false;
        }
        if (both.getKind() == Kind.CONDITIONAL_AND) {
            return isBounded(both.getLeftOperand(), counter, up, changed)
                || isBounded(both.getRightOperand(), counter, up, changed);
        }
        Changes bound = Changes.in(both.getRightOperand());
        bound.uses.retainAll(changed);
        boolean stays = bound.calls.isEmpty() && bound.uses.isEmpty();
        boolean isCompared = both.getLeftOperand().toString().equals(counter);
        return stays && isCompared && (up ? BELOW : ABOVE).contains(both.getKind());
    }

    /** The names that a statement gives something, and the fields that what it calls does. */
    private Set<String> changedBy(Tree statement) {
        Changes changes = Changes.in(statement);
        Set<String> changed = new HashSet<>(changes.gives);
        List<String> open = new ArrayList<>(changes.calls);
        Set<String> seen = new HashSet<>();
        while (!open.isEmpty()) {
            String name = open.remove(0);
            if (seen.add(name) && methods.containsKey(name)) {
                Changes inside = methods.get(name);
                inside.gives.stream().filter(given -> !inside.declares.contains(given)).forEach(changed::add);
                open.addAll(inside.calls);
            }
        }
        return changed;
    }

    // Each part of the source

    @Override
    public Void scan(Tree tree, Void none) {
        if (tree != null && FORBIDDEN.contains(tree.getKind())) {
            holds("2, 3, 4, 6 or 8 (" + tree.getKind() + ")", tree, false);
        }
        return super.scan(tree, none);
    }

    @Override
    public Void visitMethod(MethodTree tree, Void none) {
        long lines = line(positions.getEndPosition(unit, tree)) - line(positions.getStartPosition(unit, tree)) + 1;
        holds("10 (" + tree.getName() + " has " + lines + " lines)", tree, lines <= MOST_LINES);
        holds("10 (parameters)", tree, tree.getParameters().size() <= MOST_PARAMETERS);
        holds("6 (throws)", tree, tree.getThrows().isEmpty());
        Tree answer = tree.getReturnType();
        boolean isVoid = answer instanceof PrimitiveTypeTree type && type.getPrimitiveTypeKind() == TypeKind.VOID;
        holds("2 or 4 (what is answered)", tree, answer == null || isVoid || isNumber(answer));
        boolean isPrivate = tree.getModifiers().getFlags().contains(Modifier.PRIVATE);
        for (VariableTree parameter : tree.getParameters()) {
            boolean isRow = isPrivate && isRow(parameter.getType()) && !parameter.toString().contains("...");
            holds("2 (a parameter)", parameter, isNumber(parameter.getType()) || isRow);
        }
        declare(tree);
        inMethod = true;
        scan(tree.getModifiers(), none);
        scan(tree.getBody(), none);
        inMethod = false;
        return null;
    }

    /** A name that a method uses is one of its own, a field's or a method's of the class. */
    private void declare(MethodTree method) {
        names.clear();
        arrayNames.clear();
        names.addAll(methods.keySet());
        names.addAll(Changes.in(method).declares);
        for (Tree member : ((ClassTree) unit.getTypeDecls().get(0)).getMembers()) {
            if (member instanceof VariableTree field) {
                names.add(field.getName().toString());
                nameArray(field);
            }
        }
        method.getParameters().forEach(this::nameArray);
    }

    private void nameArray(VariableTree variable) {
        if (variable.getType() instanceof ArrayTypeTree) {
            arrayNames.add(variable.getName().toString());
        }
    }

    private static boolean isNumber(Tree type) {
        return type instanceof PrimitiveTypeTree primitive && TYPES.contains(primitive.getPrimitiveTypeKind());
    }

    private static boolean isRow(Tree type) {
        return type instanceof ArrayTypeTree array && isNumber(array.getType());
    }

    @Override
    public Void visitVariable(VariableTree tree, Void none) {
        holds("2 (" + tree.getName() + ")", tree, isNumber(tree.getType()) || !inMethod && isRow(tree.getType()));
        return super.visitVariable(tree, none);
    }

    @Override
    public Void visitPrimitiveType(PrimitiveTypeTree tree, Void none) {
        holds("2 (" + tree + ")", tree, isNumber(tree));
        return null;
    }

    @Override
    public Void visitNewArray(NewArrayTree tree, Void none) {
        boolean sized = tree.getDimensions().size() == 1 && tree.getInitializers() == null;
        int length = sized ? constants.getOrDefault(tree.getDimensions().get(0).toString(), 0) : 0;
        holds("4 (an array is made)", tree, fieldArrays.contains(tree) && length >= 1);
        return super.visitNewArray(tree, none);
    }

    @Override
    public Void visitMemberSelect(MemberSelectTree tree, Void none) {
        holds("3 (" + tree + ")", tree, false);
        return null;
    }

    @Override
    public Void visitIdentifier(IdentifierTree tree, Void none) {
        String name = tree.getName().toString();
        holds("3 (" + name + ")", tree, inMethod ? names.contains(name) : constants.containsKey(name));
        return null;
    }

    @Override
    public Void visitAssignment(AssignmentTree tree, Void none) {
        holds("4 (an array's name changes)", tree, !arrayNames.contains(tree.getVariable().toString()));
        return super.visitAssignment(tree, none);
    }

    @Override
    public Void visitBinary(BinaryTree tree, Void none) {
        holds("4 (arrays are compared)", tree, !arrayNames.contains(tree.getLeftOperand().toString())
            && !arrayNames.contains(tree.getRightOperand().toString()));
        return super.visitBinary(tree, none);
    }

    @Override
    public Void visitForLoop(ForLoopTree tree, Void none) {
        loops.add(tree);
        return super.visitForLoop(tree, none);
    }

    @Override
    public Void visitMethodInvocation(MethodInvocationTree tree, Void none) {
        holds("3 (" + tree + ")", tree, methods.containsKey(tree.getMethodSelect().toString()));
        for (ExpressionTree argument : tree.getArguments()) {
            holds("10 (a call in an argument)", argument, Changes.in(argument).calls.isEmpty());
        }
        return super.visitMethodInvocation(tree, none);
    }
}
