import com.sun.source.tree.ArrayTypeTree;
import com.sun.source.tree.AssignmentTree;
import com.sun.source.tree.BinaryTree;
import com.sun.source.tree.ClassTree;
import com.sun.source.tree.CompilationUnitTree;
import com.sun.source.tree.ExpressionTree;
import com.sun.source.tree.ForLoopTree;
import com.sun.source.tree.IdentifierTree;
import com.sun.source.tree.MethodInvocationTree;
import com.sun.source.tree.MethodTree;
import com.sun.source.tree.NewArrayTree;
import com.sun.source.tree.PrimitiveTypeTree;
import com.sun.source.tree.Tree;
import com.sun.source.tree.Tree.Kind;
import com.sun.source.tree.VariableTree;
import com.sun.source.util.JavacTask;
import com.sun.source.util.SourcePositions;
import com.sun.source.util.TreeScanner;
import com.sun.source.util.Trees;
import java.io.IOException;
import java.nio.file.Path;
import java.util.HashMap;
import java.util.HashSet;
import java.util.List;
import java.util.Map;
import java.util.Set;
import java.util.TreeSet;
import javax.lang.model.element.Modifier;
import javax.lang.model.type.TypeKind;
import javax.tools.JavaCompiler;
import javax.tools.StandardJavaFileManager;
import javax.tools.ToolProvider;

/**
 * The class keeps to LANGUAGE.md, as far as its source shows it. Only what the class needs is let through:
 * a part of Java that the rules leave but that is not used yet has to be put into the list here first.
 */
public final class LanguageTest extends Checks {
    private static final Path SOURCE = Path.of("src/main/java/ComparatorNet.java");
    private static final int MOST_PARAMETERS = 7;
    private static final int MOST_LINES = 60;
    private static final int MOST_FIELDS = 40;
    private static final int MOST_CALLS_DEEP = 6;

    // Rules 1 to 3, 6 and 11: no member of another class, no null, String, throw, try, cast, lambda and so on.
    private static final Set<Kind> USED = Set.of(
            Kind.COMPILATION_UNIT, Kind.CLASS, Kind.MODIFIERS, Kind.METHOD, Kind.VARIABLE, Kind.PRIMITIVE_TYPE,
            Kind.ARRAY_TYPE, Kind.NEW_ARRAY, Kind.BLOCK, Kind.IF, Kind.FOR_LOOP, Kind.RETURN,
            Kind.EXPRESSION_STATEMENT, Kind.METHOD_INVOCATION, Kind.IDENTIFIER, Kind.ARRAY_ACCESS, Kind.INT_LITERAL,
            Kind.BOOLEAN_LITERAL, Kind.PARENTHESIZED, Kind.CONDITIONAL_EXPRESSION, Kind.ASSIGNMENT,
            Kind.PLUS_ASSIGNMENT, Kind.MULTIPLY_ASSIGNMENT, Kind.DIVIDE_ASSIGNMENT, Kind.POSTFIX_INCREMENT,
            Kind.POSTFIX_DECREMENT, Kind.UNARY_MINUS, Kind.PLUS, Kind.MINUS, Kind.MULTIPLY, Kind.REMAINDER,
            Kind.LESS_THAN, Kind.LESS_THAN_EQUAL, Kind.GREATER_THAN, Kind.GREATER_THAN_EQUAL, Kind.EQUAL_TO,
            Kind.NOT_EQUAL_TO, Kind.CONDITIONAL_AND, Kind.CONDITIONAL_OR, Kind.LOGICAL_COMPLEMENT);

    private static final Map<String, Set<String>> callsOf = new HashMap<>();
    private static final Set<String> constants = new HashSet<>();
    private static final Set<String> arrayFields = new HashSet<>();

    public static void main(String[] args) throws IOException {
        JavaCompiler compiler = ToolProvider.getSystemJavaCompiler();
        try (StandardJavaFileManager files = compiler.getStandardFileManager(null, null, null)) {
            JavacTask task = (JavacTask) compiler.getTask(null, files, null, List.of("-proc:none"), null,
                    files.getJavaFileObjects(SOURCE));
            check(task.parse().iterator().next(), Trees.instance(task).getSourcePositions());
        }
        end();
    }

    private static void holds(String rule, boolean kept) {
        same(rule, kept, true);
    }

    private static void check(CompilationUnitTree unit, SourcePositions positions) {
        holds("rule 1: one class and nothing else in the file",
                unit.getPackage() == null && unit.getImports().isEmpty() && unit.getTypeDecls().size() == 1);
        checkKinds(unit);
        ClassTree program = (ClassTree) unit.getTypeDecls().get(0);
        checkFields(program);
        for (Tree member : program.getMembers()) {
            if (member instanceof MethodTree) {
                checkMethod((MethodTree) member, unit, positions);
            } else {
                holds("rules 1 and 5: neither field nor method: " + member, member instanceof VariableTree);
            }
        }
        checkCallDepth();
    }

    private static void checkKinds(CompilationUnitTree unit) {
        new TreeScanner<Void, Void>() {
            private int classes = 0;

            @Override
            public Void scan(Tree tree, Void nothing) {
                holds("outside the part of Java that is used: " + tree, tree == null || USED.contains(tree.getKind()));
                return super.scan(tree, nothing);
            }

            @Override
            public Void visitClass(ClassTree tree, Void nothing) {
                classes++;
                holds("rule 1: nested class " + tree.getSimpleName(), classes == 1);
                return super.visitClass(tree, nothing);
            }

            @Override
            public Void visitPrimitiveType(PrimitiveTypeTree tree, Void nothing) {
                TypeKind kind = tree.getPrimitiveTypeKind();
                holds("rule 2: " + kind, kind != TypeKind.FLOAT && kind != TypeKind.DOUBLE);
                return null;
            }

            @Override
            public Void visitArrayType(ArrayTypeTree tree, Void nothing) {
                holds("rule 2: " + tree, tree.getType().getKind() == Kind.PRIMITIVE_TYPE);
                return super.visitArrayType(tree, nothing);
            }

            @Override
            public Void visitVariable(VariableTree tree, Void nothing) {
                Kind type = tree.getType().getKind();
                holds("rule 2: " + tree, type == Kind.PRIMITIVE_TYPE || type == Kind.ARRAY_TYPE);
                return super.visitVariable(tree, nothing);
            }
        }.scan(unit, null);
    }

    private static void checkFields(ClassTree program) {
        int fields = 0;
        for (Tree member : program.getMembers()) {
            if (!(member instanceof VariableTree)) {
                continue;
            }
            VariableTree field = (VariableTree) member;
            if (field.getModifiers().getFlags().contains(Modifier.STATIC)) {
                checkConstant(field);
            } else {
                fields++;
                checkArrayField(field);
            }
        }
        holds("rule 10: " + fields + " fields", fields <= MOST_FIELDS);
    }

    private static void checkConstant(VariableTree field) {
        constants.add(field.getName().toString());
        String type = field.getType().toString();
        holds("rule 5: " + field, (type.equals("int") || type.equals("long")) && field.getInitializer() != null
                && field.getModifiers().getFlags().contains(Modifier.FINAL));
    }

    private static void checkArrayField(VariableTree field) {
        if (!isArray(field)) {
            return;
        }
        arrayFields.add(field.getName().toString());
        holds("rule 4: not made here, " + field, field.getInitializer() instanceof NewArrayTree);
        if (field.getInitializer() instanceof NewArrayTree) {
            NewArrayTree made = (NewArrayTree) field.getInitializer();
            holds("rule 4: the length of " + field, made.getInitializers() == null && made.getDimensions().size() == 1
                    && constants.contains(made.getDimensions().get(0).toString()));
        }
    }

    private static void checkMethod(MethodTree method, CompilationUnitTree unit, SourcePositions positions) {
        String name = method.getName().toString();
        long from = unit.getLineMap().getLineNumber(positions.getStartPosition(unit, method));
        long to = unit.getLineMap().getLineNumber(positions.getEndPosition(unit, method));
        holds("rule 10: lines of " + name, to - from + 1 <= MOST_LINES);
        holds("rule 10: parameters of " + name, method.getParameters().size() <= MOST_PARAMETERS);
        holds("rule 4: " + name + " answers an array",
                method.getReturnType() == null || method.getReturnType().getKind() == Kind.PRIMITIVE_TYPE);
        holds("calls are told apart by name, but there are two of " + name,
                callsOf.put(name, new TreeSet<>()) == null);
        checkBody(method, callsOf.get(name));
    }

    private static void checkBody(MethodTree method, Set<String> calls) {
        Set<String> arrays = new HashSet<>(arrayFields);
        method.getParameters().stream().filter(p -> isArray(p)).forEach(p -> arrays.add(p.getName().toString()));
        new TreeScanner<Void, Void>() {
            @Override
            public Void visitMethodInvocation(MethodInvocationTree call, Void nothing) {
                calls.add(call.getMethodSelect().toString());
                for (ExpressionTree argument : call.getArguments()) {
                    holds("rule 10: a call inside the arguments of " + call, !hasCall(argument));
                }
                return super.visitMethodInvocation(call, nothing);
            }

            @Override
            public Void visitNewArray(NewArrayTree tree, Void nothing) {
                holds("rule 4: " + method.getName() + " makes an array", false);
                return super.visitNewArray(tree, nothing);
            }

            @Override
            public Void visitVariable(VariableTree tree, Void nothing) {
                holds("rule 4: a local variable names an array, " + tree,
                        method.getParameters().contains(tree) || !isArray(tree));
                return super.visitVariable(tree, nothing);
            }

            @Override
            public Void visitAssignment(AssignmentTree tree, Void nothing) {
                holds("rule 4: " + tree, !names(arrays, tree.getVariable()));
                return super.visitAssignment(tree, nothing);
            }

            @Override
            public Void visitBinary(BinaryTree tree, Void nothing) {
                holds("rule 4: " + tree,
                        !names(arrays, tree.getLeftOperand()) && !names(arrays, tree.getRightOperand()));
                return super.visitBinary(tree, nothing);
            }

            @Override
            public Void visitForLoop(ForLoopTree loop, Void nothing) {
                checkLoop(method.getName() + ": " + loop, loop);
                return super.visitForLoop(loop, nothing);
            }
        }.scan(method, null);
    }

    private static boolean isArray(VariableTree variable) {
        return variable.getType().getKind() == Kind.ARRAY_TYPE;
    }

    private static boolean names(Set<String> arrays, Tree tree) {
        return tree instanceof IdentifierTree && arrays.contains(tree.toString());
    }

    private static boolean hasCall(Tree tree) {
        boolean[] found = {false};
        new TreeScanner<Void, Void>() {
            @Override
            public Void visitMethodInvocation(MethodInvocationTree call, Void nothing) {
                found[0] = true;
                return null;
            }
        }.scan(tree, null);
        return found[0];
    }

    /** A counter that goes up by one to a bound, and that the loop's body does not change. */
    private static void checkLoop(String name, ForLoopTree loop) {
        String counter = loop.getInitializer().size() == 1 && loop.getInitializer().get(0) instanceof VariableTree
                ? ((VariableTree) loop.getInitializer().get(0)).getName().toString() : "?";
        Kind test = loop.getCondition() == null ? null : loop.getCondition().getKind();
        holds("rule 8: the end of " + name, (test == Kind.LESS_THAN || test == Kind.LESS_THAN_EQUAL)
                && loop.getCondition().toString().matches(counter + " <=? \\w+( - 1)?"));
        holds("rule 8: the step of " + name,
                loop.getUpdate().size() == 1 && loop.getUpdate().get(0).toString().equals(counter + "++;"));
        String body = loop.getStatement().toString();
        String bound = loop.getCondition() == null ? "?" : loop.getCondition().toString().replaceAll(
                ".* <=? (\\w+).*", "$1");
        for (String fixed : List.of(counter, bound)) {
            holds("rule 8: " + fixed + " changes inside " + name,
                    !body.matches("(?s).*\\b" + fixed + "\\b *(\\+\\+|--|[-+*/%&|^]?=[^=]).*"));
        }
    }

    /** Rules 3, 8 and 10: all that is called stands in the class, nothing calls itself, and chains are short. */
    private static void checkCallDepth() {
        Map<String, Integer> depth = new HashMap<>();
        boolean more = true;
        while (more) {
            more = false;
            for (String name : callsOf.keySet()) {
                if (!depth.containsKey(name) && depth.keySet().containsAll(callsOf.get(name))) {
                    depth.put(name, 1 + callsOf.get(name).stream().mapToInt(depth::get).max().orElse(0));
                    more = true;
                }
            }
        }
        for (String name : callsOf.keySet()) {
            holds("rules 3 and 8: " + name + " calls itself or what is not there", depth.containsKey(name));
            holds("rule 10: calls of " + name + " go too deep", depth.getOrDefault(name, 0) <= MOST_CALLS_DEEP);
        }
    }
}
