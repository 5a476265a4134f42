import com.sun.source.tree.ArrayTypeTree;
import com.sun.source.tree.AssignmentTree;
import com.sun.source.tree.BinaryTree;
import com.sun.source.tree.ClassTree;
import com.sun.source.tree.CompilationUnitTree;
import com.sun.source.tree.CompoundAssignmentTree;
import com.sun.source.tree.ExpressionStatementTree;
import com.sun.source.tree.ExpressionTree;
import com.sun.source.tree.ForLoopTree;
import com.sun.source.tree.IdentifierTree;
import com.sun.source.tree.MethodInvocationTree;
import com.sun.source.tree.MethodTree;
import com.sun.source.tree.NewArrayTree;
import com.sun.source.tree.PrimitiveTypeTree;
import com.sun.source.tree.StatementTree;
import com.sun.source.tree.Tree;
import com.sun.source.tree.UnaryTree;
import com.sun.source.tree.VariableTree;
import com.sun.source.util.JavacTask;
import com.sun.source.util.Trees;
import com.sun.source.util.TreeScanner;
import java.io.File;
import java.io.IOException;
import java.util.ArrayList;
import java.util.EnumSet;
import java.util.HashMap;
import java.util.HashSet;
import java.util.List;
import java.util.Map;
import java.util.Set;
import java.util.TreeSet;
import javax.lang.model.element.Modifier;
import javax.lang.model.type.TypeKind;
import javax.tools.JavaCompiler;
import javax.tools.StandardJavaFileManager;
import javax.tools.ToolProvider;

// Reads the program with the compiler's own parser and holds it against the
// rules of LANGUAGE.md that its source shows. Rule 7 (no call throws) is the
// matter of the tests that make calls; rule 11 follows from rule 3.
// It is run from the project's directory.
public final class LanguageTest extends TreeScanner<Void, Void> {
    private static final String PROGRAM = "src/main/java/RepeatFinder.java";

    // What rules 2 to 9 leave, operators aside. In two points this test is
    // narrower than the rules, since a narrow form is easy to see: loops are
    // for loops that count by one, and arrays are made in fields alone.
    private static final Set<Tree.Kind> LEFT = EnumSet.of(
            Tree.Kind.COMPILATION_UNIT, Tree.Kind.CLASS, Tree.Kind.MODIFIERS,
            Tree.Kind.METHOD, Tree.Kind.VARIABLE, Tree.Kind.PRIMITIVE_TYPE, Tree.Kind.ARRAY_TYPE,
            Tree.Kind.BLOCK, Tree.Kind.IF, Tree.Kind.FOR_LOOP, Tree.Kind.SWITCH, Tree.Kind.CASE,
            Tree.Kind.BREAK, Tree.Kind.CONTINUE, Tree.Kind.LABELED_STATEMENT, Tree.Kind.RETURN,
            Tree.Kind.EXPRESSION_STATEMENT, Tree.Kind.EMPTY_STATEMENT,
            Tree.Kind.CONDITIONAL_EXPRESSION, Tree.Kind.PARENTHESIZED, Tree.Kind.TYPE_CAST,
            Tree.Kind.IDENTIFIER, Tree.Kind.ARRAY_ACCESS, Tree.Kind.METHOD_INVOCATION,
            Tree.Kind.NEW_ARRAY, Tree.Kind.ASSIGNMENT, Tree.Kind.INT_LITERAL,
            Tree.Kind.LONG_LITERAL, Tree.Kind.CHAR_LITERAL, Tree.Kind.BOOLEAN_LITERAL);

    private final CompilationUnitTree unit;
    private final Trees trees;
    private final TreeSet<String> faults = new TreeSet<>();
    private final Set<String> constants = new HashSet<>();
    private final Set<String> arrayFields = new HashSet<>();
    private final Map<String, Set<String>> callsOf = new HashMap<>();
    private String method = "";

    private LanguageTest(CompilationUnitTree unit, Trees trees) {
        this.unit = unit;
        this.trees = trees;
    }

    private void fault(String rule, Tree tree, String what) {
        faults.add("rule " + rule + ", line " + lineOf(tree) + ": " + what);
    }

    private long lineOf(Tree tree) {
        return unit.getLineMap().getLineNumber(trees.getSourcePositions().getStartPosition(unit, tree));
    }

    private long lastLineOf(Tree tree) {
        return unit.getLineMap().getLineNumber(trees.getSourcePositions().getEndPosition(unit, tree));
    }

    @Override
    public Void scan(Tree tree, Void none) {
        if (tree != null) {
            Class<?> form = tree.getKind().asInterface();
            boolean operator = form == BinaryTree.class || form == UnaryTree.class
                    || form == CompoundAssignmentTree.class;
            if (!operator && !LEFT.contains(tree.getKind())) {
                fault("2 to 9", tree, tree.getKind() + " is not among the forms that this test lets pass");
            }
        }
        return super.scan(tree, none);
    }

    private void checkFile() {
        if (unit.getPackageName() != null || !unit.getImports().isEmpty() || unit.getTypeDecls().size() != 1) {
            fault("1", unit, "the file is not one class without package and imports");
            return;
        }
        ClassTree program = (ClassTree) unit.getTypeDecls().get(0);
        checkMembers(program);
        scan(unit, null);
        checkCalls(program);
    }

    private void checkMembers(ClassTree program) {
        Set<String> publicNames = new HashSet<>();
        Set<String> privateNames = new HashSet<>();
        int fields = 0;
        for (Tree member : program.getMembers()) {
            if (member instanceof MethodTree) {
                MethodTree m = (MethodTree) member;
                boolean isPublic = m.getModifiers().getFlags().contains(Modifier.PUBLIC);
                (isPublic ? publicNames : privateNames).add(m.getName().toString());
            } else if (member instanceof VariableTree) {
                fields += checkField((VariableTree) member);
            } else {
                fault("1", member, "neither a method nor a field");
            }
        }
        if (fields > 40) {
            fault("10", program, fields + " fields");
        }
        privateNames.retainAll(publicNames);
        if (!privateNames.isEmpty()) {
            fault("1", program, "private methods bear public names: " + privateNames);
        }
    }

    // Answers how many fields beside the constants it is: one or none.
    private int checkField(VariableTree field) {
        Set<Modifier> flags = field.getModifiers().getFlags();
        if (field.getType() instanceof ArrayTypeTree) {
            arrayFields.add(field.getName().toString());
        }
        if (!flags.contains(Modifier.STATIC)) {
            return 1;
        }
        String type = field.getType().toString();
        if (!flags.contains(Modifier.FINAL) || !(type.equals("int") || type.equals("long"))) {
            fault("5", field, field.getName() + " is static and no constant of int or long");
        }
        constants.add(field.getName().toString());
        return 0;
    }

    @Override
    public Void visitMethod(MethodTree tree, Void none) {
        method = tree.getName().toString();
        callsOf.putIfAbsent(method, new TreeSet<>());
        if (tree.getReturnType() != null && !(tree.getReturnType() instanceof PrimitiveTypeTree)) {
            fault("4", tree, method + " answers no number");
        }
        if (tree.getParameters().size() > 7) {
            fault("10", tree, method + " takes more than seven parameters");
        }
        if (lastLineOf(tree) - lineOf(tree) >= 60) {
            fault("10", tree, method + " is longer than sixty lines");
        }
        super.visitMethod(tree, none);
        method = "";
        return null;
    }

    @Override
    public Void visitVariable(VariableTree tree, Void none) {
        Tree type = tree.getType();
        if (!(type instanceof PrimitiveTypeTree) && !(type instanceof ArrayTypeTree)) {
            fault("2", tree, tree.getName() + " is of no type of the language");
        }
        return super.visitVariable(tree, none);
    }

    @Override
    public Void visitPrimitiveType(PrimitiveTypeTree tree, Void none) {
        TypeKind kind = tree.getPrimitiveTypeKind();
        if (kind == TypeKind.FLOAT || kind == TypeKind.DOUBLE) {
            fault("2", tree, kind + " is not in the language");
        }
        return super.visitPrimitiveType(tree, none);
    }

    @Override
    public Void visitArrayType(ArrayTypeTree tree, Void none) {
        if (!(tree.getType() instanceof PrimitiveTypeTree)) {
            fault("2", tree, "an array of something else than numbers");
        }
        return super.visitArrayType(tree, none);
    }

    @Override
    public Void visitNewArray(NewArrayTree tree, Void none) {
        if (!method.isEmpty()) {
            fault("4", tree, method + " makes an array");
        }
        if (tree.getDimensions().size() != 1 || tree.getInitializers() != null
                || !isConstant(tree.getDimensions().get(0))) {
            fault("4", tree, "the array's length is no literal or constant");
        }
        return super.visitNewArray(tree, none);
    }

    private boolean isConstant(ExpressionTree tree) {
        return tree.getKind() == Tree.Kind.INT_LITERAL || constants.contains(tree.toString());
    }

    @Override
    public Void visitAssignment(AssignmentTree tree, Void none) {
        if (arrayFields.contains(tree.getVariable().toString())) {
            fault("4", tree, method + " assigns to an array field");
        }
        return super.visitAssignment(tree, none);
    }

    @Override
    public Void visitForLoop(ForLoopTree tree, Void none) {
        String counter = counterOf(tree);
        if (counter.isEmpty()) {
            fault("8", tree, "no counter against a bound");
        } else if (stepsOf(counter, tree.getStatement()) > 0) {
            fault("8", tree, counter + " is changed inside its loop");
        }
        return super.visitForLoop(tree, none);
    }

    // The counter of a loop that goes up to a bound, or down to one, by one.
    private static String counterOf(ForLoopTree tree) {
        if (!(tree.getCondition() instanceof BinaryTree) || tree.getUpdate().size() != 1) {
            return "";
        }
        BinaryTree condition = (BinaryTree) tree.getCondition();
        String counter = condition.getLeftOperand().toString();
        String step = ((ExpressionStatementTree) tree.getUpdate().get(0)).getExpression().toString();
        Tree.Kind against = condition.getKind();
        boolean up = against == Tree.Kind.LESS_THAN || against == Tree.Kind.LESS_THAN_EQUAL;
        boolean down = against == Tree.Kind.GREATER_THAN || against == Tree.Kind.GREATER_THAN_EQUAL;
        boolean counted = up && step.equals(counter + "++") || down && step.equals(counter + "--");
        return counted ? counter : "";
    }

    private static int stepsOf(String counter, StatementTree body) {
        int[] steps = {0};
        new TreeScanner<Void, Void>() {
            @Override
            public Void scan(Tree tree, Void none) {
                if (tree != null && counter.equals(changedBy(tree))) {
                    steps[0]++;
                }
                return super.scan(tree, none);
            }
        }.scan(body, null);
        return steps[0];
    }

    private static String changedBy(Tree tree) {
        if (tree instanceof AssignmentTree) {
            return ((AssignmentTree) tree).getVariable().toString();
        }
        if (tree instanceof CompoundAssignmentTree) {
            return ((CompoundAssignmentTree) tree).getVariable().toString();
        }
        String kind = tree.getKind().toString();
        return kind.endsWith("CREMENT") ? ((UnaryTree) tree).getExpression().toString() : "";
    }

    @Override
    public Void visitMethodInvocation(MethodInvocationTree tree, Void none) {
        if (!(tree.getMethodSelect() instanceof IdentifierTree)) {
            fault("3", tree, tree.getMethodSelect() + " is no method of the class");
        }
        callsOf.getOrDefault(method, new TreeSet<>()).add(tree.getMethodSelect().toString());
        for (ExpressionTree argument : tree.getArguments()) {
            if (holdsCall(argument)) {
                fault("10", tree, "a call inside the arguments of another call");
            }
        }
        return super.visitMethodInvocation(tree, none);
    }

    private static boolean holdsCall(Tree tree) {
        List<Tree> found = new ArrayList<>();
        new TreeScanner<Void, Void>() {
            @Override
            public Void visitMethodInvocation(MethodInvocationTree call, Void none) {
                found.add(call);
                return null;
            }
        }.scan(tree, null);
        return !found.isEmpty();
    }

    // Starting with every method, the called ones are taken again and again:
    // where a seventh round is not empty, calls go too deep or in a circle.
    private void checkCalls(ClassTree program) {
        for (String name : callsOf.keySet()) {
            Set<String> round = new TreeSet<>(Set.of(name));
            for (int depth = 1; depth <= 6 && !round.isEmpty(); depth++) {
                Set<String> next = new TreeSet<>();
                for (String caller : round) {
                    next.addAll(callsFrom(caller, program));
                }
                round = next;
            }
            if (!round.isEmpty()) {
                fault("8 or 10", program, "calls from " + name + " go in a circle or more than six deep");
            }
        }
    }

    private Set<String> callsFrom(String caller, ClassTree program) {
        Set<String> called = callsOf.get(caller);
        if (called == null) {
            fault("3", program, caller + " is no method of the class");
            return new TreeSet<>();
        }
        return called;
    }

    private static LanguageTest read() throws IOException {
        JavaCompiler compiler = ToolProvider.getSystemJavaCompiler();
        try (StandardJavaFileManager files = compiler.getStandardFileManager(null, null, null)) {
            JavacTask task = (JavacTask) compiler.getTask(null, files, null, null, null,
                    files.getJavaFileObjects(new File(PROGRAM)));
            CompilationUnitTree unit = task.parse().iterator().next();
            return new LanguageTest(unit, Trees.instance(task));
        }
    }

    public static void main(String[] args) throws IOException {
        LanguageTest test = read();
        test.checkFile();
        for (String fault : test.faults) {
            System.out.println(fault);
        }
        System.out.println(test.faults.isEmpty() ? "the program keeps to the language"
                : "the program does not keep to the language");
        if (!test.faults.isEmpty()) {
            System.exit(1);
        }
    }
}
