import com.sun.source.tree.ArrayTypeTree;
import com.sun.source.tree.AssignmentTree;
import com.sun.source.tree.BinaryTree;
import com.sun.source.tree.BlockTree;
import com.sun.source.tree.ClassTree;
import com.sun.source.tree.CompilationUnitTree;
import com.sun.source.tree.CompoundAssignmentTree;
import com.sun.source.tree.DoWhileLoopTree;
import com.sun.source.tree.ExpressionStatementTree;
import com.sun.source.tree.ExpressionTree;
import com.sun.source.tree.ForLoopTree;
import com.sun.source.tree.IdentifierTree;
import com.sun.source.tree.LiteralTree;
import com.sun.source.tree.MethodInvocationTree;
import com.sun.source.tree.MethodTree;
import com.sun.source.tree.NewArrayTree;
import com.sun.source.tree.NewClassTree;
import com.sun.source.tree.ParenthesizedTree;
import com.sun.source.tree.PrimitiveTypeTree;
import com.sun.source.tree.ReturnTree;
import com.sun.source.tree.StatementTree;
import com.sun.source.tree.Tree;
import com.sun.source.tree.UnaryTree;
import com.sun.source.tree.VariableTree;
import com.sun.source.tree.WhileLoopTree;
import com.sun.source.util.JavacTask;
import com.sun.source.util.SourcePositions;
import com.sun.source.util.TreeScanner;
import com.sun.source.util.Trees;
import java.io.IOException;
import java.net.URI;
import java.util.ArrayList;
import java.util.EnumSet;
import java.util.HashMap;
import java.util.HashSet;
import java.util.List;
import java.util.Map;
import java.util.Set;
import java.util.TreeMap;
import java.util.TreeSet;
import javax.lang.model.element.Modifier;
import javax.lang.model.type.TypeKind;
import javax.tools.JavaFileObject;
import javax.tools.SimpleJavaFileObject;
import javax.tools.ToolProvider;

/**
 * Reads the rules of LANGUAGE.md off a class's text, as javac's parser sees it. Where a rule leaves
 * several ways this asks for one that is easy to see: a loop is a for loop that counts up to a
 * constant, an array is made in the initialiser of a final field, and nothing is reached by a dot.
 * Rule 7 is the one that it can't tell.
 */
final class LanguageRules extends TreeScanner<Void, Void> {
    private static final int PARAMETERS = 7;
    private static final int LINES = 60;
    private static final int DEPTH = 6;
    private static final int FIELDS = 40;

    private static final Set<TypeKind> NUMBER_TYPES = EnumSet.of(TypeKind.INT, TypeKind.LONG,
            TypeKind.SHORT, TypeKind.BYTE, TypeKind.CHAR, TypeKind.BOOLEAN);

    // What is not here is outside rules 2, 3, 6 or 9, or not needed.
    private static final Set<Tree.Kind> KINDS = EnumSet.of(Tree.Kind.CLASS, Tree.Kind.MODIFIERS,
            Tree.Kind.VARIABLE, Tree.Kind.METHOD, Tree.Kind.BLOCK, Tree.Kind.PRIMITIVE_TYPE,
            Tree.Kind.ARRAY_TYPE, Tree.Kind.NEW_ARRAY, Tree.Kind.IDENTIFIER, Tree.Kind.INT_LITERAL,
            Tree.Kind.LONG_LITERAL, Tree.Kind.BOOLEAN_LITERAL, Tree.Kind.IF, Tree.Kind.FOR_LOOP,
            Tree.Kind.RETURN, Tree.Kind.EXPRESSION_STATEMENT, Tree.Kind.METHOD_INVOCATION,
            Tree.Kind.ARRAY_ACCESS, Tree.Kind.ASSIGNMENT, Tree.Kind.PARENTHESIZED, Tree.Kind.TYPE_CAST,
            Tree.Kind.CONDITIONAL_EXPRESSION);

    private final List<String> faults = new ArrayList<>();
    private final Map<String, Long> constants = new HashMap<>();
    private final Set<String> arrays = new HashSet<>();
    private final Map<String, Set<String>> callsOf = new TreeMap<>();
    private final Set<Tree> fieldArrays = new HashSet<>();
    private SourcePositions positions;
    private CompilationUnitTree unit;
    private String method = "";
    private boolean insideArguments = false;

    private LanguageRules() {
    }

    /** Each fault begins with the number of its rule, or with "0" when the text is no Java. */
    static List<String> faults(String name, String text) throws IOException {
        LanguageRules rules = new LanguageRules();
        rules.look(name, text);
        return rules.faults;
    }

    private void look(String name, String text) throws IOException {
        JavaFileObject file = new SimpleJavaFileObject(URI.create("string:///" + name + ".java"),
                JavaFileObject.Kind.SOURCE) {
            @Override
            public CharSequence getCharContent(boolean ignoreEncodingErrors) {
                return text;
            }
        };
        JavacTask task = (JavacTask) ToolProvider.getSystemJavaCompiler().getTask(null, null,
                diagnostic -> fault(0, diagnostic.getMessage(null)), List.of("--release", "17"), null,
                List.of(file));
        unit = task.parse().iterator().next();
        positions = Trees.instance(task).getSourcePositions();
        boolean one = unit.getTypeDecls().size() == 1 && unit.getTypeDecls().get(0) instanceof ClassTree;
        if (unit.getPackage() != null || !unit.getImports().isEmpty() || !one) {
            fault(1, "there is a package, an import, or not one class");
            return;
        }
        lookAtClass((ClassTree) unit.getTypeDecls().get(0), name);
    }

    private void fault(int rule, String what) {
        faults.add(rule + ": " + what + (method.isEmpty() ? "" : " (in " + method + ")"));
    }

    private void lookAtClass(ClassTree planned, String name) {
        Set<Modifier> modifiers = planned.getModifiers().getFlags();
        if (!modifiers.equals(EnumSet.of(Modifier.PUBLIC, Modifier.FINAL))
                || !planned.getSimpleName().contentEquals(name) || planned.getExtendsClause() != null
                || !planned.getImplementsClause().isEmpty() || !planned.getTypeParameters().isEmpty()) {
            fault(1, "the class is not the document's");
        }
        int fields = 0;
        for (Tree member : planned.getMembers()) {
            if (member instanceof VariableTree field) {
                lookAtField(field);
                fields += field.getModifiers().getFlags().contains(Modifier.STATIC) ? 0 : 1;
            } else if (member instanceof MethodTree made) {
                callsOf.put(made.getName().toString(), new TreeSet<>());
            } else {
                fault(member instanceof BlockTree ? 5 : 1, "a member is neither field nor method");
            }
        }
        if (fields > FIELDS) {
            fault(10, "there are " + fields + " fields");
        }
        scan(planned.getMembers(), null);
        lookAtNames(planned);
        lookAtDepth();
    }

    private void lookAtField(VariableTree field) {
        Set<Modifier> modifiers = field.getModifiers().getFlags();
        boolean constant = modifiers.contains(Modifier.STATIC);
        if (!modifiers.contains(Modifier.PRIVATE) && !(constant && modifiers.contains(Modifier.PUBLIC))) {
            fault(1, "field " + field.getName() + " can be seen from outside");
        }
        if (constant) {
            Long value = constantValue(field.getInitializer());
            boolean whole = field.getType() instanceof PrimitiveTypeTree type
                    && (type.getPrimitiveTypeKind() == TypeKind.INT
                    || type.getPrimitiveTypeKind() == TypeKind.LONG);
            if (value == null || !whole || !modifiers.contains(Modifier.FINAL)) {
                fault(5, "static field " + field.getName() + " is not a constant of int or long");
            } else {
                constants.put(field.getName().toString(), value);
            }
        } else if (field.getType() instanceof ArrayTypeTree) {
            arrays.add(field.getName().toString());
            if (!modifiers.contains(Modifier.FINAL) || !(field.getInitializer() instanceof NewArrayTree)) {
                fault(4, "array " + field.getName() + " is not made once, in a final field's initialiser");
            }
            fieldArrays.add(field.getInitializer());
        }
    }

    /** Null when it is not a literal, a constant named before, or one of these with a minus. */
    private Long constantValue(Tree tree) {
        if (tree instanceof LiteralTree literal && literal.getValue() instanceof Number number) {
            return number.longValue();
        }
        if (tree instanceof IdentifierTree name) {
            return constants.get(name.getName().toString());
        }
        if (tree instanceof UnaryTree unary && unary.getKind() == Tree.Kind.UNARY_MINUS) {
            Long value = constantValue(unary.getExpression());
            return value == null ? null : Long.valueOf(-value);
        }
        return null;
    }

    private void lookAtNames(ClassTree planned) {
        Set<String> shown = new HashSet<>();
        Set<String> hidden = new HashSet<>();
        for (Tree member : planned.getMembers()) {
            if (member instanceof MethodTree made) {
                boolean isPrivate = made.getModifiers().getFlags().contains(Modifier.PRIVATE);
                (isPrivate ? hidden : shown).add(made.getName().toString());
            }
        }
        hidden.retainAll(shown);
        if (!hidden.isEmpty()) {
            fault(1, "private methods bear the names of public ones: " + hidden);
        }
    }

    /** Level by level down from all methods: without recursion there are no more levels than methods. */
    private void lookAtDepth() {
        Set<String> now = callsOf.keySet();
        int depth = 0;
        while (!now.isEmpty() && depth <= callsOf.size()) {
            depth++;
            Set<String> next = new TreeSet<>();
            for (String caller : now) {
                next.addAll(callsOf.get(caller));
            }
            now = next;
        }
        if (depth > callsOf.size()) {
            fault(8, "a method calls itself, by way of " + now);
        } else if (depth > DEPTH) {
            fault(10, "calls go " + depth + " deep");
        }
    }

    @Override
    public Void scan(Tree tree, Void nothing) {
        if (tree != null && !KINDS.contains(tree.getKind()) && !(tree instanceof BinaryTree)
                && !(tree instanceof UnaryTree) && !(tree instanceof CompoundAssignmentTree)) {
            fault(ruleAgainst(tree), "the text has " + tree.getKind() + ": " + tree);
        }
        return super.scan(tree, nothing);
    }

    private static int ruleAgainst(Tree tree) {
        if (tree instanceof WhileLoopTree || tree instanceof DoWhileLoopTree) {
            return 8;
        }
        if (tree instanceof ClassTree) {
            return 1;
        }
        return tree instanceof LiteralTree || tree instanceof NewClassTree ? 2 : 6;
    }

    @Override
    public Void visitClass(ClassTree inner, Void nothing) {
        fault(1, "a class is nested");
        return null;
    }

    @Override
    public Void visitMethod(MethodTree made, Void nothing) {
        method = made.getName().toString();
        Set<Modifier> modifiers = made.getModifiers().getFlags();
        if (!modifiers.contains(Modifier.PUBLIC) && !modifiers.contains(Modifier.PRIVATE)) {
            fault(1, "a method is neither public nor private");
        }
        if (made.getReturnType() instanceof ArrayTypeTree) {
            fault(4, "a method answers an array");
        }
        if (made.getParameters().size() > PARAMETERS) {
            fault(10, "a method takes too many parameters");
        }
        if (!made.getThrows().isEmpty() || modifiers.contains(Modifier.SYNCHRONIZED)) {
            fault(6, "a method throws or is synchronized");
        }
        long first = unit.getLineMap().getLineNumber(positions.getStartPosition(unit, made));
        long last = unit.getLineMap().getLineNumber(positions.getEndPosition(unit, made));
        if (last - first >= LINES) {
            fault(10, "a method is too long");
        }
        Set<String> fields = new HashSet<>(arrays);
        super.visitMethod(made, nothing);
        arrays.retainAll(fields);
        method = "";
        return null;
    }

    @Override
    public Void visitVariable(VariableTree variable, Void nothing) {
        Tree type = variable.getType();
        boolean array = type instanceof ArrayTypeTree;
        Tree plain = array ? ((ArrayTypeTree) type).getType() : type;
        if (!(plain instanceof PrimitiveTypeTree)) {
            fault(2, variable.getName() + " has type " + type);
        }
        if (array && !method.isEmpty()) {
            arrays.add(variable.getName().toString());
            if (variable.getInitializer() != null) {
                fault(4, "a local variable names an array");
            }
        }
        return super.visitVariable(variable, nothing);
    }

    @Override
    public Void visitPrimitiveType(PrimitiveTypeTree type, Void nothing) {
        if (!NUMBER_TYPES.contains(type.getPrimitiveTypeKind())
                && type.getPrimitiveTypeKind() != TypeKind.VOID) {
            fault(2, "the text has type " + type);
        }
        return super.visitPrimitiveType(type, nothing);
    }

    @Override
    public Void visitNewArray(NewArrayTree made, Void nothing) {
        boolean one = made.getDimensions().size() == 1 && made.getInitializers() == null;
        Long length = one ? constantValue(made.getDimensions().get(0)) : null;
        if (!fieldArrays.contains(made) || length == null || length < 1) {
            fault(4, "an array is made in a way that is not allowed: " + made);
        }
        return super.visitNewArray(made, nothing);
    }

    private boolean namesArray(Tree tree) {
        if (tree instanceof ParenthesizedTree inner) {
            return namesArray(inner.getExpression());
        }
        return tree instanceof IdentifierTree name && arrays.contains(name.getName().toString());
    }

    @Override
    public Void visitAssignment(AssignmentTree set, Void nothing) {
        if (namesArray(set.getVariable()) || namesArray(set.getExpression())) {
            fault(4, "an array is assigned: " + set);
        }
        return super.visitAssignment(set, nothing);
    }

    @Override
    public Void visitBinary(BinaryTree both, Void nothing) {
        if (namesArray(both.getLeftOperand()) || namesArray(both.getRightOperand())) {
            fault(4, "an array is compared: " + both);
        }
        return super.visitBinary(both, nothing);
    }

    @Override
    public Void visitReturn(ReturnTree back, Void nothing) {
        if (namesArray(back.getExpression())) {
            fault(4, "an array is answered: " + back);
        }
        return super.visitReturn(back, nothing);
    }

    @Override
    public Void visitMethodInvocation(MethodInvocationTree call, Void nothing) {
        String name = call.getMethodSelect().toString();
        if (!callsOf.containsKey(name)) {
            fault(3, "a method from elsewhere is called: " + call);
        } else if (!method.isEmpty()) {
            callsOf.get(method).add(name);
        }
        if (insideArguments) {
            fault(10, "a call stands in the arguments of another one: " + call);
        }
        boolean before = insideArguments;
        insideArguments = true;
        scan(call.getArguments(), nothing);
        insideArguments = before;
        return null;
    }

    @Override
    public Void visitForLoop(ForLoopTree loop, Void nothing) {
        String counter = counterOf(loop);
        if (counter == null || !countsUp(loop, counter) || !endsAtConstant(loop.getCondition(), counter)
                || isChanged(counter, loop.getCondition()) || isChanged(counter, loop.getStatement())) {
            fault(8, "a loop's end can't be seen: " + loop);
        }
        return super.visitForLoop(loop, nothing);
    }

    private static String counterOf(ForLoopTree loop) {
        List<? extends StatementTree> first = loop.getInitializer();
        // A counter of a shorter type could wrap around before it comes to the end.
        boolean one = first.size() == 1 && first.get(0) instanceof VariableTree variable
                && variable.getType() instanceof PrimitiveTypeTree type
                && type.getPrimitiveTypeKind() == TypeKind.INT;
        return one ? ((VariableTree) first.get(0)).getName().toString() : null;
    }

    private static boolean countsUp(ForLoopTree loop, String counter) {
        List<? extends ExpressionStatementTree> steps = loop.getUpdate();
        return steps.size() == 1 && steps.get(0).getExpression() instanceof UnaryTree step
                && step.getKind() == Tree.Kind.POSTFIX_INCREMENT
                && step.getExpression().toString().equals(counter);
    }

    private boolean endsAtConstant(ExpressionTree condition, String counter) {
        if (!(condition instanceof BinaryTree both)) {
            return false;
        }
        if (both.getKind() == Tree.Kind.CONDITIONAL_AND) {
            return endsAtConstant(both.getLeftOperand(), counter);
        }
        Long end = constantValue(both.getRightOperand());
        boolean compares = both.getKind() == Tree.Kind.LESS_THAN
                || both.getKind() == Tree.Kind.LESS_THAN_EQUAL;
        // Up to the greatest int a counter of type int would never be above the end.
        return compares && both.getLeftOperand().toString().equals(counter)
                && end != null && end < Integer.MAX_VALUE;
    }

    private static boolean isChanged(String counter, Tree tree) {
        boolean[] changed = {false};
        new TreeScanner<Void, Void>() {
            private void look(Tree target) {
                changed[0] |= target.toString().equals(counter);
            }

            @Override
            public Void visitAssignment(AssignmentTree set, Void nothing) {
                look(set.getVariable());
                return super.visitAssignment(set, nothing);
            }

            @Override
            public Void visitCompoundAssignment(CompoundAssignmentTree set, Void nothing) {
                look(set.getVariable());
                return super.visitCompoundAssignment(set, nothing);
            }

            @Override
            public Void visitUnary(UnaryTree step, Void nothing) {
                String sign = step.getKind().toString();
                if (sign.endsWith("INCREMENT") || sign.endsWith("DECREMENT")) {
                    look(step.getExpression());
                }
                return super.visitUnary(step, nothing);
            }
        }.scan(tree, null);
        return changed[0];
    }
}
