import com.sun.source.tree.ArrayAccessTree;
import com.sun.source.tree.ArrayTypeTree;
import com.sun.source.tree.AssignmentTree;
import com.sun.source.tree.BinaryTree;
import com.sun.source.tree.ClassTree;
import com.sun.source.tree.CompilationUnitTree;
import com.sun.source.tree.CompoundAssignmentTree;
import com.sun.source.tree.ExpressionTree;
import com.sun.source.tree.ForLoopTree;
import com.sun.source.tree.IdentifierTree;
import com.sun.source.tree.LiteralTree;
import com.sun.source.tree.MethodInvocationTree;
import com.sun.source.tree.MethodTree;
import com.sun.source.tree.ModifiersTree;
import com.sun.source.tree.NewArrayTree;
import com.sun.source.tree.PrimitiveTypeTree;
import com.sun.source.tree.Tree;
import com.sun.source.tree.UnaryTree;
import com.sun.source.tree.VariableTree;
import com.sun.source.util.JavacTask;
import com.sun.source.util.SourcePositions;
import com.sun.source.util.TreePathScanner;
import com.sun.source.util.TreeScanner;
import com.sun.source.util.Trees;
import java.io.IOException;
import java.nio.file.Path;
import java.util.EnumSet;
import java.util.HashMap;
import java.util.HashSet;
import java.util.List;
import java.util.Map;
import java.util.Set;
import javax.lang.model.element.Modifier;
import javax.lang.model.type.TypeKind;
import javax.tools.JavaCompiler;
import javax.tools.StandardJavaFileManager;
import javax.tools.ToolProvider;

/**
 * The rules of LANGUAGE.md, looked up in the text of ChainCover.java. It is narrower than they are:
 * what they leave free but the class does not use (a while loop, a division, an array in a local
 * variable) is refused too, as it would need a look of its own. Not seen here: that an index is
 * always in its array (rule 7; CallsBoundaryTest tries it), and that a loop's bound is not changed
 * by a method that the loop calls (rule 8). The members that can be seen from outside (rule 1) are
 * FaceTest's.
 */
public final class LanguageTest extends TreePathScanner<Void, Void> {
    private static final String SOURCE = "src/main/java/ChainCover.java";
    private static final Set<Tree.Kind> ALLOWED = EnumSet.of(
        Tree.Kind.COMPILATION_UNIT, Tree.Kind.CLASS, Tree.Kind.MODIFIERS, Tree.Kind.METHOD,
        Tree.Kind.VARIABLE, Tree.Kind.PRIMITIVE_TYPE, Tree.Kind.ARRAY_TYPE, Tree.Kind.NEW_ARRAY,
        Tree.Kind.BLOCK, Tree.Kind.IF, Tree.Kind.FOR_LOOP, Tree.Kind.RETURN,
        Tree.Kind.EXPRESSION_STATEMENT, Tree.Kind.PARENTHESIZED, Tree.Kind.CONDITIONAL_EXPRESSION,
        Tree.Kind.IDENTIFIER, Tree.Kind.INT_LITERAL, Tree.Kind.BOOLEAN_LITERAL,
        Tree.Kind.METHOD_INVOCATION, Tree.Kind.ARRAY_ACCESS,
        Tree.Kind.ASSIGNMENT, Tree.Kind.PLUS_ASSIGNMENT, Tree.Kind.OR_ASSIGNMENT,
        Tree.Kind.POSTFIX_INCREMENT, Tree.Kind.POSTFIX_DECREMENT,
        Tree.Kind.PLUS, Tree.Kind.MINUS, Tree.Kind.UNARY_MINUS, Tree.Kind.BITWISE_COMPLEMENT,
        Tree.Kind.AND, Tree.Kind.OR, Tree.Kind.LEFT_SHIFT, Tree.Kind.RIGHT_SHIFT,
        Tree.Kind.CONDITIONAL_AND, Tree.Kind.CONDITIONAL_OR, Tree.Kind.LOGICAL_COMPLEMENT,
        Tree.Kind.EQUAL_TO, Tree.Kind.NOT_EQUAL_TO, Tree.Kind.LESS_THAN,
        Tree.Kind.GREATER_THAN, Tree.Kind.GREATER_THAN_EQUAL);

    private static final Set<Modifier> MODIFIERS =
        EnumSet.of(Modifier.PUBLIC, Modifier.PRIVATE, Modifier.STATIC, Modifier.FINAL);

    private final CompilationUnitTree unit;
    private final SourcePositions positions;
    private final Map<String, MethodTree> methods = new HashMap<>();
    private final Map<String, Tree> constants = new HashMap<>();
    private final Set<String> arrayFields = new HashSet<>();
    private int fields = 0;

    private LanguageTest(CompilationUnitTree unit, SourcePositions positions) {
        this.unit = unit;
        this.positions = positions;
    }

    public static void main(String[] args) throws IOException {
        JavaCompiler compiler = ToolProvider.getSystemJavaCompiler();
        try (StandardJavaFileManager files = compiler.getStandardFileManager(null, null, null)) {
            JavacTask task = (JavacTask) compiler.getTask(
                null, files, null, null, null, files.getJavaFileObjects(Path.of(SOURCE)));
            CompilationUnitTree unit = task.parse().iterator().next();
            new LanguageTest(unit, Trees.instance(task).getSourcePositions()).lookAtAll();
        }
        Check.end();
    }

    private void lookAtAll() {
        keeps(1, "one class, and no package line", unit,
            unit.getTypeDecls().size() == 1 && unit.getPackage() == null);
        keeps(3, "nothing is imported", unit, unit.getImports().isEmpty());
        ClassTree type = (ClassTree) unit.getTypeDecls().get(0);
        lookAtMembers(type);
        scan(unit, null);
        keeps(10, "at most forty fields", type, fields <= 40);
        for (MethodTree method : methods.values()) {
            int depth = depth(method);
            keeps(8, method.getName() + " calls nothing that comes back", method, depth <= methods.size());
            keeps(10, method.getName() + " calls at most six deep", method, depth <= 6);
        }
    }

    private void keeps(int rule, String what, Tree where, boolean kept) {
        Check.due("rule " + rule + ", line " + firstLine(where) + ": " + what, kept, true);
    }

    private long firstLine(Tree tree) {
        return unit.getLineMap().getLineNumber(positions.getStartPosition(unit, tree));
    }

    private long lastLine(Tree tree) {
        return unit.getLineMap().getLineNumber(positions.getEndPosition(unit, tree));
    }

    private void lookAtMembers(ClassTree type) {
        Set<String> open = new HashSet<>();
        Set<String> hidden = new HashSet<>();
        for (Tree member : type.getMembers()) {
            if (member instanceof MethodTree) {
                MethodTree method = (MethodTree) member;
                String name = method.getName().toString();
                boolean isPrivate = method.getModifiers().getFlags().contains(Modifier.PRIVATE);
                (isPrivate ? hidden : open).add(name);
                keeps(1, "one method of the name " + name, method, methods.put(name, method) == null);
            } else if (member instanceof VariableTree) {
                lookAtField((VariableTree) member);
            } else {
                keeps(1, "nothing in the class but fields and methods", member, false);
            }
        }
        hidden.retainAll(open);
        keeps(1, "no private method with a public one's name", type, hidden.isEmpty());
        keeps(2, "the class extends and implements nothing", type,
            type.getExtendsClause() == null && type.getImplementsClause().isEmpty());
    }

    private void lookAtField(VariableTree field) {
        Set<Modifier> flags = field.getModifiers().getFlags();
        if (flags.contains(Modifier.STATIC)) {
            constants.put(field.getName().toString(), field.getInitializer());
            keeps(5, "a static field is a constant", field,
                flags.contains(Modifier.FINAL) && isNumber(field.getInitializer()));
            keeps(5, "a constant is an int or a long", field,
                isPrimitive(field.getType(), TypeKind.INT, TypeKind.LONG));
            return;
        }
        fields++;
        if (field.getType() instanceof ArrayTypeTree) {
            arrayFields.add(field.getName().toString());
            keeps(4, "an array field is final and made where it stands", field,
                flags.contains(Modifier.FINAL) && field.getInitializer() instanceof NewArrayTree);
        }
    }

    private static boolean isNumber(Tree tree) {
        Tree number = tree instanceof UnaryTree ? ((UnaryTree) tree).getExpression() : tree;
        return number != null && number.getKind() == Tree.Kind.INT_LITERAL;
    }

    private static boolean isPrimitive(Tree type, TypeKind... kinds) {
        return type instanceof PrimitiveTypeTree
            && List.of(kinds).contains(((PrimitiveTypeTree) type).getPrimitiveTypeKind());
    }

    private static boolean isPlain(Tree type) {
        return isPrimitive(type, TypeKind.INT, TypeKind.LONG, TypeKind.SHORT, TypeKind.BYTE,
            TypeKind.CHAR, TypeKind.BOOLEAN);
    }

    /** How many methods stand one in another at the deepest; more than there are if one comes back. */
    private int depth(MethodTree method) {
        int depth = 0;
        Set<String> running = Set.of(method.getName().toString());
        while (!running.isEmpty() && depth <= methods.size()) {
            Set<String> called = new HashSet<>();
            for (String name : running) {
                called.addAll(methods.containsKey(name) ? calls(methods.get(name).getBody()) : Set.of());
            }
            running = called;
            depth++;
        }
        return depth;
    }

    private static Set<String> calls(Tree tree) {
        Set<String> names = new HashSet<>();
        new TreeScanner<Void, Void>() {
            @Override
            public Void visitMethodInvocation(MethodInvocationTree call, Void none) {
                names.add(call.getMethodSelect().toString());
                return super.visitMethodInvocation(call, none);
            }
        }.scan(tree, null);
        return names;
    }

    /** The names of what is assigned to, or counted up or down, within a tree. */
    private static Set<String> changed(Tree tree) {
        Set<String> names = new HashSet<>();
        new TreeScanner<Void, Void>() {
            @Override
            public Void visitAssignment(AssignmentTree change, Void none) {
                names.add(change.getVariable().toString());
                return super.visitAssignment(change, none);
            }

            @Override
            public Void visitCompoundAssignment(CompoundAssignmentTree change, Void none) {
                names.add(change.getVariable().toString());
                return super.visitCompoundAssignment(change, none);
            }

            @Override
            public Void visitUnary(UnaryTree change, Void none) {
                // Of one like !x, too, which changes nothing: no loop of the class minds.
                names.add(change.getExpression().toString());
                return super.visitUnary(change, none);
            }
        }.scan(tree, null);
        return names;
    }

    @Override
    public Void scan(Tree tree, Void none) {
        if (tree != null && !ALLOWED.contains(tree.getKind())) {
            Check.due("line " + firstLine(tree) + ": " + tree.getKind() + " is let in", false, true);
        }
        return super.scan(tree, none);
    }

    @Override
    public Void visitVariable(VariableTree variable, Void none) {
        Tree type = variable.getType();
        boolean isField = getCurrentPath().getParentPath().getLeaf() instanceof ClassTree;
        boolean isArray = type instanceof ArrayTypeTree && isPlain(((ArrayTypeTree) type).getType());
        keeps(2, "a number, a boolean or a field's array of these: " + variable, variable,
            isPlain(type) || (isField && isArray));
        return super.visitVariable(variable, none);
    }

    @Override
    public Void visitMethod(MethodTree method, Void none) {
        Tree answer = method.getReturnType();
        keeps(4, "no array is answered by " + method.getName(), method,
            answer == null || isPlain(answer) || isPrimitive(answer, TypeKind.VOID));
        keeps(6, "nothing is thrown by " + method.getName(), method, method.getThrows().isEmpty());
        keeps(10, "at most seven parameters", method, method.getParameters().size() <= 7);
        keeps(10, "at most sixty lines in " + method.getName(), method,
            lastLine(method) - firstLine(method) < 60);
        return super.visitMethod(method, none);
    }

    @Override
    public Void visitNewArray(NewArrayTree made, Void none) {
        Tree holder = getCurrentPath().getParentPath().getLeaf();
        Tree around = getCurrentPath().getParentPath().getParentPath().getLeaf();
        keeps(4, "an array is made for a field alone", made,
            holder instanceof VariableTree && around instanceof ClassTree);
        keeps(4, "an array's length is a literal or a constant, 1 or more", made,
            made.getDimensions().size() == 1 && isLength(made.getDimensions().get(0)));
        return super.visitNewArray(made, none);
    }

    @Override
    public Void visitIdentifier(IdentifierTree name, Void none) {
        if (arrayFields.contains(name.getName().toString())) {
            Tree user = getCurrentPath().getParentPath().getLeaf();
            keeps(4, "an array is neither assigned to nor answered nor compared: " + user, name,
                user instanceof ArrayAccessTree && ((ArrayAccessTree) user).getExpression() == name);
        }
        return super.visitIdentifier(name, none);
    }

    @Override
    public Void visitModifiers(ModifiersTree modifiers, Void none) {
        keeps(6, "no modifier but public, private, static and final: " + modifiers, modifiers,
            MODIFIERS.containsAll(modifiers.getFlags()));
        return super.visitModifiers(modifiers, none);
    }

    @Override
    public Void visitMethodInvocation(MethodInvocationTree call, Void none) {
        keeps(3, "only the class's own methods are called: " + call, call,
            call.getMethodSelect() instanceof IdentifierTree
                && methods.containsKey(call.getMethodSelect().toString()));
        for (ExpressionTree argument : call.getArguments()) {
            keeps(10, "no call among a call's arguments: " + call, call, calls(argument).isEmpty());
        }
        return super.visitMethodInvocation(call, none);
    }

    @Override
    public Void visitForLoop(ForLoopTree loop, Void none) {
        boolean seen = loop.getInitializer().size() == 1 && loop.getUpdate().size() == 1
            && loop.getInitializer().get(0) instanceof VariableTree;
        if (seen) {
            String counter = ((VariableTree) loop.getInitializer().get(0)).getName().toString();
            String bound = boundOf(loop.getCondition(), counter);
            Set<String> changed = changed(loop.getStatement());
            seen = loop.getUpdate().get(0).getExpression().toString().equals(counter + "++")
                && !bound.isEmpty() && !changed.contains(counter) && !changed.contains(bound);
        }
        keeps(8, "a loop counts up to a bound that it leaves alone", loop, seen);
        return super.visitForLoop(loop, none);
    }

    private boolean isLength(Tree tree) {
        Tree number = constants.getOrDefault(tree.toString(), tree);
        return number.getKind() == Tree.Kind.INT_LITERAL && (Integer) ((LiteralTree) number).getValue() >= 1;
    }

    /** What the counter is smaller than as long as the loop goes on; empty if that is not seen. */
    private static String boundOf(ExpressionTree condition, String counter) {
        ExpressionTree part = condition;
        while (part != null && part.getKind() == Tree.Kind.CONDITIONAL_AND) {
            part = ((BinaryTree) part).getLeftOperand();
        }
        if (part == null || part.getKind() != Tree.Kind.LESS_THAN) {
            return "";
        }
        BinaryTree test = (BinaryTree) part;
        boolean plain = test.getRightOperand() instanceof IdentifierTree || isNumber(test.getRightOperand());
        return plain && test.getLeftOperand().toString().equals(counter) ? test.getRightOperand().toString() : "";
    }
}
