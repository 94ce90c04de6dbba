import com.sun.source.tree.ArrayTypeTree;
import com.sun.source.tree.ClassTree;
import com.sun.source.tree.CompilationUnitTree;
import com.sun.source.tree.ExpressionTree;
import com.sun.source.tree.IdentifierTree;
import com.sun.source.tree.MemberSelectTree;
import com.sun.source.tree.MethodInvocationTree;
import com.sun.source.tree.MethodTree;
import com.sun.source.tree.NewArrayTree;
import com.sun.source.tree.PrimitiveTypeTree;
import com.sun.source.tree.Tree;
import com.sun.source.tree.Tree.Kind;
import com.sun.source.tree.VariableTree;
import com.sun.source.util.JavacTask;
import com.sun.source.util.SourcePositions;
import com.sun.source.util.TreeScanner;
import com.sun.source.util.Trees;
import java.nio.file.Path;
import java.util.HashMap;
import java.util.HashSet;
import java.util.Map;
import java.util.Set;
import javax.lang.model.element.Modifier;
import javax.lang.model.type.TypeKind;
import javax.tools.JavaCompiler;
import javax.tools.ToolProvider;

/**
 * The rules of LANGUAGE.md that can be read off the source, whose path is the argument. Where that
 * is simpler it is stricter than they are: for loops alone, every array a final field, and no
 * local variable that names one.
 */
public final class LanguageTest extends TreeScanner<Void, Void> {
    private static final Set<Kind> FORBIDDEN = Set.of(
        Kind.IMPORT, Kind.PACKAGE, Kind.ENUM, Kind.INTERFACE, Kind.RECORD, Kind.ANNOTATION_TYPE,
        Kind.THROW, Kind.TRY, Kind.SYNCHRONIZED, Kind.ASSERT, Kind.INSTANCE_OF, Kind.LAMBDA_EXPRESSION,
        Kind.MEMBER_REFERENCE, Kind.NEW_CLASS, Kind.STRING_LITERAL, Kind.NULL_LITERAL,
        Kind.FLOAT_LITERAL, Kind.DOUBLE_LITERAL, Kind.PARAMETERIZED_TYPE, Kind.WHILE_LOOP,
        Kind.DO_WHILE_LOOP, Kind.ENHANCED_FOR_LOOP);
    private static final Set<TypeKind> TYPES = Set.of(TypeKind.INT, TypeKind.LONG, TypeKind.SHORT,
        TypeKind.BYTE, TypeKind.CHAR, TypeKind.BOOLEAN);

    private final Due due = new Due();
    private final Map<String, Set<String>> calls = new HashMap<>();
    private final Set<String> constants = new HashSet<>();
    private final Set<Tree> fieldArrays = new HashSet<>();
    private final CompilationUnitTree unit;
    private final SourcePositions positions;
    private String method = "";

    private LanguageTest(CompilationUnitTree unit, SourcePositions positions) {
        this.unit = unit;
        this.positions = positions;
    }

    public static void main(String[] args) throws Exception {
        JavaCompiler compiler = ToolProvider.getSystemJavaCompiler();
        var files = compiler.getStandardFileManager(null, null, null);
        var task = (JavacTask) compiler.getTask(null, files, null, null, null, files.getJavaFileObjects(Path.of(args[0])));
        CompilationUnitTree unit = task.parse().iterator().next();
        LanguageTest test = new LanguageTest(unit, Trees.instance(task).getSourcePositions());
        test.whole();
        test.due.end("LanguageTest");
    }

    private long line(long position) {
        return unit.getLineMap().getLineNumber(position);
    }

    private void holds(String rule, Tree where, boolean held) {
        due.yes("rule " + rule + ", line " + line(positions.getStartPosition(unit, where)), held);
    }

    private void whole() {
        due.is("the classes", unit.getTypeDecls().size(), 1);
        ClassTree program = (ClassTree) unit.getTypeDecls().get(0);
        int fields = 0;
        Set<String> names = new HashSet<>();
        for (Tree member : program.getMembers()) {
            if (member instanceof VariableTree) {
                fields += field((VariableTree) member) ? 1 : 0;
            } else {
                holds("1 (a member is a method)", member, member.getKind() == Kind.METHOD);
                String name = ((MethodTree) member).getName().toString();
                holds("1 (a name is used once)", member, names.add(name));
            }
        }
        due.is("rule 10, the fields are at most forty", fields <= 40, true);
        scan(unit, null);
        for (String name : calls.keySet()) {
            int depth = depth(name, 0);
            due.is("rules 8 and 10, the calls of " + name + " are at most six deep", depth <= 6, true);
        }
    }

    /** Whether the field is one beside the constants. */
    private boolean field(VariableTree field) {
        Set<Modifier> modifiers = field.getModifiers().getFlags();
        holds("1 (a field is private)", field, modifiers.contains(Modifier.PRIVATE));
        ExpressionTree value = field.getInitializer();
        if (modifiers.contains(Modifier.STATIC)) {
            boolean literal = value != null && (value.getKind() == Kind.INT_LITERAL || value.getKind() == Kind.UNARY_MINUS);
            holds("5", field, literal && modifiers.contains(Modifier.FINAL) && field.getType() instanceof PrimitiveTypeTree);
            constants.add(field.getName().toString());
            return false;
        }
        if (field.getType() instanceof ArrayTypeTree) {
            holds("4 (an array is a final field)", field, modifiers.contains(Modifier.FINAL) && value instanceof NewArrayTree);
            fieldArrays.add(value);
        }
        return true;
    }

    private int depth(String name, int above) {
        int deepest = 1;
        // A method that calls itself, directly or not, is stopped here with too great a depth.
        if (above < 20) {
            for (String called : calls.getOrDefault(name, Set.of())) {
                deepest = Math.max(deepest, 1 + depth(called, above + 1));
            }
        }
        return deepest;
    }

    @Override
    public Void scan(Tree tree, Void none) {
        if (tree != null && FORBIDDEN.contains(tree.getKind())) {
            holds("2, 3, 4, 6 or 8 (" + tree.getKind() + ")", tree, false);
        }
        return super.scan(tree, none);
    }

    @Override
    public Void visitMethod(MethodTree tree, Void none) {
        method = tree.getName().toString();
        calls.put(method, new HashSet<>());
        long lines = line(positions.getEndPosition(unit, tree)) - line(positions.getStartPosition(unit, tree)) + 1;
        holds("10 (" + method + " has " + lines + " lines)", tree, lines <= 60);
        holds("10 (parameters)", tree, tree.getParameters().size() <= 7);
        Tree answer = tree.getReturnType();
        holds("4 (no array is answered)", tree, answer == null || answer instanceof PrimitiveTypeTree);
        for (VariableTree parameter : tree.getParameters()) {
            boolean inside = tree.getModifiers().getFlags().contains(Modifier.PRIVATE);
            holds("2", parameter, parameter.getType() instanceof PrimitiveTypeTree || inside && isRow(parameter.getType()));
        }
        scan(tree.getBody(), none);
        method = "";
        return null;
    }

    private static boolean isRow(Tree type) {
        return type instanceof ArrayTypeTree && ((ArrayTypeTree) type).getType() instanceof PrimitiveTypeTree;
    }

    @Override
    public Void visitVariable(VariableTree tree, Void none) {
        boolean local = !method.isEmpty();
        holds("2", tree, tree.getType() instanceof PrimitiveTypeTree || !local && isRow(tree.getType()));
        return super.visitVariable(tree, none);
    }

    @Override
    public Void visitPrimitiveType(PrimitiveTypeTree tree, Void none) {
        holds("2", tree, TYPES.contains(tree.getPrimitiveTypeKind()));
        return null;
    }

    @Override
    public Void visitNewArray(NewArrayTree tree, Void none) {
        boolean sized = tree.getDimensions().size() == 1 && tree.getInitializers() == null;
        ExpressionTree size = sized ? tree.getDimensions().get(0) : null;
        boolean fixed = size instanceof IdentifierTree && constants.contains(((IdentifierTree) size).getName().toString());
        holds("4", tree, fieldArrays.contains(tree) && fixed);
        return super.visitNewArray(tree, none);
    }

    @Override
    public Void visitMemberSelect(MemberSelectTree tree, Void none) {
        holds("3 (" + tree + ")", tree, false);
        return null;
    }

    @Override
    public Void visitMethodInvocation(MethodInvocationTree tree, Void none) {
        // javac's own call of the parent's constructor is not in a parsed tree.
        calls.get(method).add(tree.getMethodSelect().toString());
        for (ExpressionTree argument : tree.getArguments()) {
            holds("10 (a call in an argument)", argument, !argument.toString().contains("("));
        }
        return super.visitMethodInvocation(tree, none);
    }
}
