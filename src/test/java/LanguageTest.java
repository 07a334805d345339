import com.sun.source.tree.*;
import com.sun.source.util.JavacTask;
import com.sun.source.util.SourcePositions;
import com.sun.source.util.TreeScanner;
import com.sun.source.util.Trees;
import java.io.File;
import java.io.IOException;
import java.util.EnumMap;
import java.util.HashSet;
import java.util.List;
import java.util.Map;
import java.util.Set;
import java.util.TreeMap;
import java.util.TreeSet;
import javax.lang.model.element.Modifier;
import javax.lang.model.type.TypeKind;
import javax.tools.JavaCompiler;
import javax.tools.StandardJavaFileManager;
import javax.tools.ToolProvider;

/**
 * The rules of LANGUAGE.md, as far as the source's own words tell. Some are looked at in a narrower
 * form, which is simpler to tell and which the class keeps: no name with a dot, no division, arrays
 * only as final fields and each only looked into, no loop but a for with a counter. That an index is
 * right and that a bound is far enough away, the words do not tell.
 */
public final class LanguageTest extends TreeScanner<Void, Void> {
    private static final Map<Tree.Kind, Integer> RULE_AGAINST = new EnumMap<>(Tree.Kind.class);

    private final CompilationUnitTree unit;
    private final SourcePositions positions;
    private final Set<String> constants = new HashSet<>();
    private final Set<String> arrays = new HashSet<>();
    private final Set<String> counters = new HashSet<>();
    private final Map<String, Set<String>> callsOf = new TreeMap<>();
    private String method = null;
    private boolean inArguments = false;

    static {
        ruleOut(1, Tree.Kind.PACKAGE, Tree.Kind.INTERFACE, Tree.Kind.ENUM, Tree.Kind.RECORD,
            Tree.Kind.ANNOTATION_TYPE);
        ruleOut(2, Tree.Kind.STRING_LITERAL, Tree.Kind.FLOAT_LITERAL, Tree.Kind.DOUBLE_LITERAL);
        ruleOut(3, Tree.Kind.IMPORT, Tree.Kind.MEMBER_SELECT);
        ruleOut(4, Tree.Kind.NEW_CLASS, Tree.Kind.NULL_LITERAL);
        ruleOut(6, Tree.Kind.THROW, Tree.Kind.TRY, Tree.Kind.SYNCHRONIZED, Tree.Kind.ASSERT,
            Tree.Kind.INSTANCE_OF, Tree.Kind.LAMBDA_EXPRESSION, Tree.Kind.MEMBER_REFERENCE);
        ruleOut(7, Tree.Kind.DIVIDE, Tree.Kind.DIVIDE_ASSIGNMENT, Tree.Kind.REMAINDER,
            Tree.Kind.REMAINDER_ASSIGNMENT);
        ruleOut(8, Tree.Kind.WHILE_LOOP, Tree.Kind.DO_WHILE_LOOP, Tree.Kind.ENHANCED_FOR_LOOP);
    }

    private LanguageTest(CompilationUnitTree unit, SourcePositions positions) {
        this.unit = unit;
        this.positions = positions;
    }

    private static void ruleOut(int number, Tree.Kind... kinds) {
        for (Tree.Kind kind : kinds) {
            RULE_AGAINST.put(kind, number);
        }
    }

    public static void main(String[] args) throws IOException {
        File file = new File("src/main/java/NetworkSimplex.java");
        JavaCompiler compiler = ToolProvider.getSystemJavaCompiler();
        try (StandardJavaFileManager files = compiler.getStandardFileManager(null, null, null)) {
            JavacTask task = (JavacTask) compiler.getTask(null, files, null, List.of("-proc:none"), null,
                files.getJavaFileObjects(file));
            for (CompilationUnitTree unit : task.parse()) {
                new LanguageTest(unit, Trees.instance(task).getSourcePositions()).scan(unit, null);
            }
        }
        Check.end();
    }

    private void rule(int number, Tree tree, String what, boolean kept) {
        if (!kept) {
            long line = unit.getLineMap().getLineNumber(positions.getStartPosition(unit, tree));
            Check.due("rule " + number + " at line " + line + ": " + what, kept, true);
        }
    }

    @Override
    public Void scan(Tree tree, Void none) {
        if (tree != null && RULE_AGAINST.containsKey(tree.getKind())) {
            rule(RULE_AGAINST.get(tree.getKind()), tree, "no " + tree.getKind(), false);
        }
        return super.scan(tree, none);
    }

    @Override
    public Void visitCompilationUnit(CompilationUnitTree tree, Void none) {
        rule(1, tree, "one class in the file", tree.getTypeDecls().size() == 1);
        return super.visitCompilationUnit(tree, none);
    }

    @Override
    public Void visitClass(ClassTree tree, Void none) {
        rule(1, tree, "the one class is public and final", unit.getTypeDecls().contains(tree)
            && tree.getModifiers().getFlags().equals(Set.of(Modifier.PUBLIC, Modifier.FINAL)));
        int fields = 0;
        for (Tree member : tree.getMembers()) {
            rule(1, member, "a member is a field or a method",
                member instanceof VariableTree || member instanceof MethodTree);
            if (member instanceof VariableTree) {
                fields += lookAtField((VariableTree) member) ? 1 : 0;
            }
        }
        rule(10, tree, "some forty fields at most, not " + fields, fields <= 40);
        super.visitClass(tree, none);
        for (String name : callsOf.keySet()) {
            rule(8, tree, "no recursion, and rule 10: six calls deep at most, not " + name, depth(name, 6) <= 6);
        }
        return null;
    }

    /** Looks at a field and tells whether it is one beside the constants. */
    private boolean lookAtField(VariableTree field) {
        Set<Modifier> flags = field.getModifiers().getFlags();
        if (flags.contains(Modifier.STATIC)) {
            rule(5, field, "a static field is a constant of int or long", flags.contains(Modifier.FINAL)
                && isNumber(field.getInitializer()) && Set.of("int", "long").contains(field.getType().toString()));
            constants.add(field.getName().toString());
            return false;
        }
        rule(1, field, "a field is private", flags.contains(Modifier.PRIVATE));
        if (field.getType() instanceof ArrayTypeTree) {
            rule(4, field, "an array is made where its field stands", flags.contains(Modifier.FINAL)
                && field.getInitializer() instanceof NewArrayTree);
            arrays.add(field.getName().toString());
        }
        return true;
    }

    private static boolean isNumber(ExpressionTree value) {
        if (value != null && value.getKind() == Tree.Kind.UNARY_MINUS) {
            return isNumber(((UnaryTree) value).getExpression());
        }
        return value instanceof LiteralTree && ((LiteralTree) value).getValue() instanceof Number;
    }

    /** How deep the calls from a method go, itself counted, looked at no deeper than so many calls. */
    private int depth(String name, int calls) {
        int deepest = 0;
        for (String called : callsOf.getOrDefault(name, Set.of())) {
            deepest = Math.max(deepest, calls == 0 ? 0 : depth(called, calls - 1));
        }
        return deepest + 1;
    }

    @Override
    public Void visitMethod(MethodTree tree, Void none) {
        method = tree.getName().toString();
        rule(1, tree, "no two methods of one name", callsOf.put(method, new TreeSet<>()) == null);
        Set<Modifier> flags = tree.getModifiers().getFlags();
        rule(1, tree, "private or public", flags.contains(Modifier.PRIVATE) || flags.contains(Modifier.PUBLIC));
        rule(2, tree, "answers a number, a boolean or nothing",
            tree.getReturnType() == null || tree.getReturnType() instanceof PrimitiveTypeTree);
        rule(6, tree, "not synchronized", !flags.contains(Modifier.SYNCHRONIZED));
        rule(6, tree, "no throws", tree.getThrows().isEmpty());
        rule(10, tree, "seven parameters at most", tree.getParameters().size() <= 7);
        rule(10, tree, "some sixty lines at most", tree.toString().lines().count() <= 60);
        super.visitMethod(tree, none);
        method = null;
        return null;
    }

    @Override
    public Void visitVariable(VariableTree tree, Void none) {
        boolean isFieldArray = method == null && tree.getType() instanceof ArrayTypeTree;
        rule(2, tree, "a number, a boolean or a field of an array of them",
            tree.getType() instanceof PrimitiveTypeTree || isFieldArray);
        return super.visitVariable(tree, none);
    }

    @Override
    public Void visitPrimitiveType(PrimitiveTypeTree tree, Void none) {
        TypeKind kind = tree.getPrimitiveTypeKind();
        rule(2, tree, "no float or double", kind != TypeKind.FLOAT && kind != TypeKind.DOUBLE);
        return null;
    }

    @Override
    public Void visitArrayType(ArrayTypeTree tree, Void none) {
        rule(2, tree, "one dimension of numbers or booleans", tree.getType() instanceof PrimitiveTypeTree);
        return super.visitArrayType(tree, none);
    }

    @Override
    public Void visitTypeCast(TypeCastTree tree, Void none) {
        rule(6, tree, "a cast is one to a number type", tree.getType() instanceof PrimitiveTypeTree);
        return super.visitTypeCast(tree, none);
    }

    @Override
    public Void visitNewArray(NewArrayTree tree, Void none) {
        rule(4, tree, "an array is made in a field's initialiser", method == null);
        rule(4, tree, "its length is a number or a constant", tree.getDimensions().size() == 1
            && (isNumber(tree.getDimensions().get(0)) || constants.contains(tree.getDimensions().get(0).toString())));
        return super.visitNewArray(tree, none);
    }

    @Override
    public Void visitArrayAccess(ArrayAccessTree tree, Void none) {
        rule(4, tree, "only an array field is looked into", arrays.contains(tree.getExpression().toString()));
        return scan(tree.getIndex(), none);
    }

    @Override
    public Void visitIdentifier(IdentifierTree tree, Void none) {
        rule(4, tree, "an array is only looked into", !arrays.contains(tree.toString()));
        return null;
    }

    @Override
    public Void visitMethodInvocation(MethodInvocationTree tree, Void none) {
        rule(10, tree, "no call inside the arguments of another", !inArguments);
        rule(3, tree, "a call from a method to one of its own class", method != null);
        if (method != null) {
            callsOf.get(method).add(tree.getMethodSelect().toString());
        }
        scan(tree.getMethodSelect(), none);
        inArguments = true;
        scan(tree.getArguments(), none);
        inArguments = false;
        return null;
    }

    @Override
    public Void visitForLoop(ForLoopTree tree, Void none) {
        String head = tree.toString().lines().findFirst().orElse("");
        boolean counts = head.matches("for \\(int (\\w+) = 0; (\\w+ && )?\\1 < \\w+( && [^|?]*)?; \\1\\+\\+\\) \\{");
        rule(8, tree, "a counter against a bound: " + head, counts);
        String counter = head.replaceAll("for \\(int (\\w+) = .*", "$1");
        scan(tree.getCondition(), none);
        counters.add(counter);
        scan(tree.getStatement(), none);
        counters.remove(counter);
        return null;
    }

    private void leavesCountersAlone(Tree tree, ExpressionTree changed) {
        rule(8, tree, "a loop leaves its counter alone", !counters.contains(changed.toString()));
    }

    @Override
    public Void visitAssignment(AssignmentTree tree, Void none) {
        leavesCountersAlone(tree, tree.getVariable());
        return super.visitAssignment(tree, none);
    }

    @Override
    public Void visitCompoundAssignment(CompoundAssignmentTree tree, Void none) {
        leavesCountersAlone(tree, tree.getVariable());
        return super.visitCompoundAssignment(tree, none);
    }

    @Override
    public Void visitUnary(UnaryTree tree, Void none) {
        boolean reads = Set.of(Tree.Kind.UNARY_MINUS, Tree.Kind.UNARY_PLUS, Tree.Kind.BITWISE_COMPLEMENT,
            Tree.Kind.LOGICAL_COMPLEMENT).contains(tree.getKind());
        if (!reads) {
            leavesCountersAlone(tree, tree.getExpression());
        }
        return super.visitUnary(tree, none);
    }
}
