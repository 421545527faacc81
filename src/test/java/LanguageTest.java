import com.sun.source.tree.ArrayAccessTree;
import com.sun.source.tree.ArrayTypeTree;
import com.sun.source.tree.BinaryTree;
import com.sun.source.tree.BlockTree;
import com.sun.source.tree.ClassTree;
import com.sun.source.tree.CompilationUnitTree;
import com.sun.source.tree.ExpressionTree;
import com.sun.source.tree.ForLoopTree;
import com.sun.source.tree.IdentifierTree;
import com.sun.source.tree.LiteralTree;
import com.sun.source.tree.MethodInvocationTree;
import com.sun.source.tree.MethodTree;
import com.sun.source.tree.NewArrayTree;
import com.sun.source.tree.PrimitiveTypeTree;
import com.sun.source.tree.Tree;
import com.sun.source.tree.Tree.Kind;
import com.sun.source.tree.TypeCastTree;
import com.sun.source.tree.VariableTree;
import com.sun.source.util.JavacTask;
import com.sun.source.util.TreePath;
import com.sun.source.util.TreePathScanner;
import com.sun.source.util.TreeScanner;
import com.sun.source.util.Trees;
import java.io.IOException;
import java.nio.file.Path;
import java.util.HashMap;
import java.util.HashSet;
import java.util.List;
import java.util.Map;
import java.util.Set;
import java.util.TreeMap;
import java.util.TreeSet;
import javax.lang.model.element.Modifier;
import javax.lang.model.type.TypeKind;
import javax.tools.JavaCompiler;
import javax.tools.StandardJavaFileManager;
import javax.tools.ToolProvider;

/**
 * Holds the text of the program against the rules of LANGUAGE.md that its form can show. Where a
 * rule allows more than the program uses, this test asks for the narrower form: it is plainer to
 * look at, and no less than the rule.
 */
public final class LanguageTest extends TreePathScanner<Void, Void> {
    private static final Path PROGRAM = Path.of("src/main/java/InductionDesk.java");
    private static final int MOST_PARAMETERS = 7;
    private static final int MOST_LINES = 60;
    private static final int MOST_CALLS_DEEP = 6;
    private static final int MOST_FIELDS = 40;

    private static final Set<TypeKind> NUMBERS = Set.of(TypeKind.INT, TypeKind.LONG,
            TypeKind.SHORT, TypeKind.BYTE, TypeKind.CHAR, TypeKind.BOOLEAN);
    private static final Set<Kind> LITERALS = Set.of(
            Kind.INT_LITERAL, Kind.LONG_LITERAL, Kind.CHAR_LITERAL, Kind.BOOLEAN_LITERAL);
    private static final Set<Kind> COUNTER_CHANGES = Set.of(Kind.POSTFIX_INCREMENT, Kind.POSTFIX_DECREMENT,
            Kind.PREFIX_INCREMENT, Kind.PREFIX_DECREMENT, Kind.ASSIGNMENT);

    /** What must not stand anywhere in the file, with the number of the rule. */
    private static final Map<Kind, Integer> NOWHERE = new HashMap<>();

    static {
        forbid(1, Kind.INTERFACE, Kind.ENUM, Kind.RECORD, Kind.ANNOTATION_TYPE, Kind.PACKAGE);
        forbid(2, Kind.NEW_CLASS, Kind.PARAMETERIZED_TYPE, Kind.STRING_LITERAL,
                Kind.FLOAT_LITERAL, Kind.DOUBLE_LITERAL);
        // With no dot in the file, nothing of a class or an object beside this one can be named.
        forbid(3, Kind.IMPORT, Kind.MEMBER_SELECT, Kind.ANNOTATION);
        forbid(4, Kind.NULL_LITERAL);
        forbid(6, Kind.THROW, Kind.TRY, Kind.CATCH, Kind.SYNCHRONIZED, Kind.ASSERT, Kind.INSTANCE_OF,
                Kind.LAMBDA_EXPRESSION, Kind.MEMBER_REFERENCE);
        forbid(7, Kind.DIVIDE, Kind.REMAINDER, Kind.DIVIDE_ASSIGNMENT, Kind.REMAINDER_ASSIGNMENT);
        forbid(8, Kind.WHILE_LOOP, Kind.DO_WHILE_LOOP, Kind.ENHANCED_FOR_LOOP);
    }

    private static final Check check = new Check();

    private final CompilationUnitTree unit;
    private final Trees trees;
    private final Map<String, Long> constants = new HashMap<>();
    private final Set<String> arrayFields = new HashSet<>();
    private final Map<String, Set<String>> callsOf = new TreeMap<>();
    private int classes = 0;
    private int fields = 0;
    private String method = "";

    private LanguageTest(CompilationUnitTree unit, Trees trees) {
        this.unit = unit;
        this.trees = trees;
    }

    public static void main(String[] args) throws IOException {
        JavaCompiler compiler = ToolProvider.getSystemJavaCompiler();
        try (StandardJavaFileManager files = compiler.getStandardFileManager(null, null, null)) {
            JavacTask task = (JavacTask) compiler.getTask(
                    null, files, null, null, null, files.getJavaFileObjects(PROGRAM));
            CompilationUnitTree unit = task.parse().iterator().next();
            new LanguageTest(unit, Trees.instance(task)).lookAtAll();
        }
        check.end();
    }

    private static void forbid(int rule, Kind... kinds) {
        for (Kind kind : kinds) {
            NOWHERE.put(kind, rule);
        }
    }

    private void lookAtAll() {
        noteNames((ClassTree) unit.getTypeDecls().get(0));
        scan(unit, null);
        due(1, "classes in the file", classes, 1);
        due(10, "at most " + MOST_FIELDS + " fields", truth(fields <= MOST_FIELDS), 1);
        for (String name : callsOf.keySet()) {
            lookAtCallsFrom(name);
        }
    }

    private static void due(int rule, String what, long got, long want) {
        check.part("LANGUAGE.md, rule " + rule);
        check.due(what, got, want);
    }

    private static int truth(boolean value) {
        return value ? 1 : 0;
    }

    /** Methods may stand before the fields and methods that they name, so the names come first. */
    private void noteNames(ClassTree desk) {
        for (Tree member : desk.getMembers()) {
            if (member instanceof MethodTree made) {
                callsOf.put(made.getName().toString(), new TreeSet<>());
            } else if (member instanceof VariableTree field) {
                String name = field.getName().toString();
                if (field.getType() instanceof ArrayTypeTree) {
                    arrayFields.add(name);
                } else if (isStatic(field)) {
                    constants.put(name, constantValue(field.getInitializer()));
                }
            }
        }
    }

    private static boolean isStatic(VariableTree field) {
        return field.getModifiers().getFlags().contains(Modifier.STATIC);
    }

    /** The value of a number as it is written, with or without a minus; null for anything else. */
    private static Long constantValue(ExpressionTree written) {
        if (written == null) {
            return null;
        }
        String text = written.toString();
        return text.matches("-?\\d+L?") ? Long.valueOf(text.replace("L", "")) : null;
    }

    @Override
    public Void scan(Tree tree, Void none) {
        if (tree != null) {
            Integer rule = NOWHERE.get(tree.getKind());
            if (rule != null) {
                due(rule, "in " + method + ": " + tree + ", allowed", 0, 1);
            }
        }
        return super.scan(tree, none);
    }

    @Override
    public Void visitClass(ClassTree tree, Void none) {
        classes++;
        return super.visitClass(tree, none);
    }

    @Override
    public Void visitVariable(VariableTree tree, Void none) {
        String name = tree.getName().toString();
        if (parent() instanceof ClassTree) {
            lookAtField(tree, name);
        } else {
            due(2, "a type of numbers: " + name, truth(isNumber(tree.getType())), 1);
        }
        return super.visitVariable(tree, none);
    }

    private void lookAtField(VariableTree field, String name) {
        Set<Modifier> flags = field.getModifiers().getFlags();
        due(1, "private " + name, truth(flags.contains(Modifier.PRIVATE)), 1);
        if (isStatic(field)) {
            due(5, "final " + name, truth(flags.contains(Modifier.FINAL)), 1);
            due(5, "int or long: " + name, truth(List.of("int", "long").contains(field.getType().toString())), 1);
            due(5, "a constant: " + name, truth(constants.get(name) != null), 1);
            return;
        }
        fields++;
        if (field.getType() instanceof ArrayTypeTree array) {
            due(2, "one-dimensional, of numbers: " + name, truth(isNumber(array.getType())), 1);
            due(4, "made with the field: " + name, truth(field.getInitializer() instanceof NewArrayTree), 1);
            due(4, "final " + name, truth(flags.contains(Modifier.FINAL)), 1);
        } else {
            due(2, "a type of numbers: " + name, truth(isNumber(field.getType())), 1);
        }
    }

    private static boolean isNumber(Tree type) {
        return type instanceof PrimitiveTypeTree primitive && NUMBERS.contains(primitive.getPrimitiveTypeKind());
    }

    @Override
    public Void visitMethod(MethodTree tree, Void none) {
        method = tree.getName().toString();
        Tree answer = tree.getReturnType();
        boolean answersNothing = answer == null || answer.toString().equals("void");
        due(2, "answers a number or nothing: " + method, truth(answersNothing || isNumber(answer)), 1);
        due(10, "few parameters: " + method, truth(tree.getParameters().size() <= MOST_PARAMETERS), 1);
        due(10, "short: " + method, truth(linesOf(tree) <= MOST_LINES), 1);
        return super.visitMethod(tree, none);
    }

    private long linesOf(Tree tree) {
        long first = unit.getLineMap().getLineNumber(trees.getSourcePositions().getStartPosition(unit, tree));
        long last = unit.getLineMap().getLineNumber(trees.getSourcePositions().getEndPosition(unit, tree));
        return last - first + 1;
    }

    @Override
    public Void visitBlock(BlockTree tree, Void none) {
        due(5, "an initialiser beside the constructor", truth(parent() instanceof ClassTree), 0);
        return super.visitBlock(tree, none);
    }

    @Override
    public Void visitNewArray(NewArrayTree tree, Void none) {
        TreePath field = getCurrentPath().getParentPath();
        due(4, "made in a field's initialiser: " + tree, truth(field.getParentPath().getLeaf() instanceof ClassTree), 1);
        due(4, "one length: " + tree, tree.getDimensions().size(), 1);
        for (ExpressionTree length : tree.getDimensions()) {
            Long value = constants.getOrDefault(length.toString(), constantValue(length));
            due(4, "a constant of 1 or more: " + tree, truth(value != null && value >= 1), 1);
        }
        return super.visitNewArray(tree, none);
    }

    @Override
    public Void visitIdentifier(IdentifierTree tree, Void none) {
        if (arrayFields.contains(tree.getName().toString())) {
            boolean indexed = parent() instanceof ArrayAccessTree access && access.getExpression() == tree;
            due(4, "in " + method + ": only an element is used: " + tree, truth(indexed), 1);
        }
        return super.visitIdentifier(tree, none);
    }

    @Override
    public Void visitLiteral(LiteralTree tree, Void none) {
        due(2, "a number: " + tree, truth(LITERALS.contains(tree.getKind())), 1);
        return super.visitLiteral(tree, none);
    }

    @Override
    public Void visitTypeCast(TypeCastTree tree, Void none) {
        due(6, "a cast between numbers: " + tree, truth(isNumber(tree.getType())), 1);
        return super.visitTypeCast(tree, none);
    }

    @Override
    public Void visitForLoop(ForLoopTree tree, Void none) {
        String head = "in " + method + ": a counter goes up to a bound: " + tree.getCondition();
        boolean oneOfEach = tree.getInitializer().size() == 1 && tree.getUpdate().size() == 1;
        due(8, head, truth(oneOfEach && tree.getInitializer().get(0) instanceof VariableTree), 1);
        if (oneOfEach && tree.getInitializer().get(0) instanceof VariableTree counter) {
            String name = counter.getName().toString();
            due(8, head, truth(tree.getUpdate().get(0).getExpression().toString().equals(name + "++")), 1);
            due(8, head, truth(isBelowBound(tree.getCondition(), name)), 1);
            String bound = tree.getCondition().toString().replaceFirst(".* ", "");
            due(8, head + ", neither changes inside", changesOf(Set.of(name, bound), tree), 0);
        }
        return super.visitForLoop(tree, none);
    }

    private static boolean isBelowBound(ExpressionTree condition, String counter) {
        return condition instanceof BinaryTree comparison
                && (comparison.getKind() == Kind.LESS_THAN || comparison.getKind() == Kind.LESS_THAN_EQUAL)
                && comparison.getLeftOperand().toString().equals(counter)
                && comparison.getRightOperand().toString().matches("\\w+");
    }

    /** How often the loop's body gives one of the names a new value. */
    private static int changesOf(Set<String> names, ForLoopTree loop) {
        int[] changes = {0};
        new TreeScanner<Void, Void>() {
            @Override
            public Void scan(Tree tree, Void none) {
                if (tree != null && givesNewValue(tree, names)) {
                    changes[0]++;
                }
                return super.scan(tree, none);
            }
        }.scan(loop.getStatement(), null);
        return changes[0];
    }

    private static boolean givesNewValue(Tree tree, Set<String> names) {
        boolean changes = COUNTER_CHANGES.contains(tree.getKind()) || tree.getKind().name().endsWith("_ASSIGNMENT");
        if (!changes) {
            return false;
        }
        String target = tree.toString().replaceFirst("^(\\+\\+|--)", "").replaceFirst("\\W.*", "");
        return names.contains(target);
    }

    @Override
    public Void visitMethodInvocation(MethodInvocationTree tree, Void none) {
        String called = tree.getMethodSelect().toString();
        due(3, "in " + method + ": a method of its own: " + called, truth(callsOf.containsKey(called)), 1);
        callsOf.computeIfAbsent(method, unknown -> new TreeSet<>()).add(called);
        for (TreePath above = getCurrentPath().getParentPath(); above != null; above = above.getParentPath()) {
            boolean insideCall = above.getLeaf() instanceof MethodInvocationTree;
            due(10, "in " + method + ": " + called + " inside the arguments of a call", truth(insideCall), 0);
        }
        return super.visitMethodInvocation(tree, none);
    }

    /** Goes down level by level: a method that calls itself, by whatever way, never runs out of levels. */
    private void lookAtCallsFrom(String name) {
        Set<String> level = Set.of(name);
        int deep = 0;
        while (!level.isEmpty() && deep <= callsOf.size()) {
            Set<String> below = new TreeSet<>();
            for (String caller : level) {
                below.addAll(callsOf.getOrDefault(caller, Set.of()));
            }
            level = below;
            deep++;
        }
        due(8, "recursion below " + name, truth(deep > callsOf.size()), 0);
        due(10, "calls at most " + MOST_CALLS_DEEP + " deep: " + name, truth(deep <= MOST_CALLS_DEEP), 1);
    }

    private Tree parent() {
        return getCurrentPath().getParentPath().getLeaf();
    }
}
