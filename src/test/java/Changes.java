import com.sun.source.tree.AssignmentTree;
import com.sun.source.tree.CompoundAssignmentTree;
import com.sun.source.tree.ExpressionTree;
import com.sun.source.tree.IdentifierTree;
import com.sun.source.tree.MethodInvocationTree;
import com.sun.source.tree.Tree;
import com.sun.source.tree.Tree.Kind;
import com.sun.source.tree.UnaryTree;
import com.sun.source.tree.VariableTree;
import com.sun.source.util.TreeScanner;
import java.util.HashSet;
import java.util.Set;

/** What a part of the source declares, uses, gives a value (or a part of it one) and calls. */
final class Changes extends TreeScanner<Void, Void> {
    private static final Set<Kind> STEPS = Set.of(Kind.POSTFIX_INCREMENT, Kind.POSTFIX_DECREMENT,
        Kind.PREFIX_INCREMENT, Kind.PREFIX_DECREMENT);

    final Set<String> declares = new HashSet<>();
    final Set<String> uses = new HashSet<>();
    final Set<String> gives = new HashSet<>();
    final Set<String> calls = new HashSet<>();

    private Changes() {
    }

    static Changes in(Tree tree) {
        Changes changes = new Changes();
        changes.scan(tree, null);
        return changes;
    }

    private void given(ExpressionTree place) {
        gives.add(place.toString().replaceAll("\\[.*", ""));
    }

    @Override
    public Void visitVariable(VariableTree tree, Void none) {
        declares.add(tree.getName().toString());
        return super.visitVariable(tree, none);
    }

    @Override
    public Void visitIdentifier(IdentifierTree tree, Void none) {
        uses.add(tree.getName().toString());
        return null;
    }

    @Override
    public Void visitMethodInvocation(MethodInvocationTree tree, Void none) {
        calls.add(tree.getMethodSelect().toString());
        return super.visitMethodInvocation(tree, none);
    }

    @Override
    public Void visitAssignment(AssignmentTree tree, Void none) {
        given(tree.getVariable());
        return super.visitAssignment(tree, none);
    }

    @Override
    public Void visitCompoundAssignment(CompoundAssignmentTree tree, Void none) {
        given(tree.getVariable());
        return super.visitCompoundAssignment(tree, none);
    }

    @Override
    public Void visitUnary(UnaryTree tree, Void none) {
        if (STEPS.contains(tree.getKind())) {
            given(tree.getExpression());
        }
        return super.visitUnary(tree, none);
    }
}
