import com.sun.source.tree.*;
import com.sun.source.util.JavacTask;
import com.sun.source.util.TreePath;
import com.sun.source.util.TreePathScanner;
import com.sun.source.util.TreeScanner;
import java.io.IOException;
import java.nio.file.Files;
import java.nio.file.Path;
import java.util.ArrayList;
import java.util.HashMap;
import java.util.List;
import java.util.Map;
import java.util.Set;
import java.util.TreeMap;
import java.util.TreeSet;
import javax.lang.model.element.Modifier;
import javax.tools.JavaCompiler;
import javax.tools.ToolProvider;

/** The source keeps to LANGUAGE.md, as far as its text can tell; CallsEndTest is for rule 7. */
public final class LanguageTest extends TreePathScanner<Void, Void> {
    private static final Path SOURCE = Path.of("src/main/java/SoftSolver.java");
    private static final Set<String> NUMBERS = Set.of("int", "long", "short", "byte", "char", "boolean");
    private static final Set<Tree.Kind> RULED_OUT = Set.of(
            Tree.Kind.THROW, Tree.Kind.TRY, Tree.Kind.CATCH, Tree.Kind.SYNCHRONIZED, Tree.Kind.ASSERT,
            Tree.Kind.INSTANCE_OF, Tree.Kind.LAMBDA_EXPRESSION, Tree.Kind.MEMBER_REFERENCE,
            Tree.Kind.NULL_LITERAL, Tree.Kind.STRING_LITERAL, Tree.Kind.FLOAT_LITERAL,
            Tree.Kind.DOUBLE_LITERAL, Tree.Kind.NEW_CLASS, Tree.Kind.IMPORT, Tree.Kind.PACKAGE,
            Tree.Kind.INTERFACE, Tree.Kind.ENUM, Tree.Kind.RECORD, Tree.Kind.ANNOTATION_TYPE,
            Tree.Kind.ENHANCED_FOR_LOOP, Tree.Kind.ANNOTATION);

    /** The class divides nothing, so no divisor has to be looked at. */
    private static final Set<Tree.Kind> DIVIDING = Set.of(
            Tree.Kind.DIVIDE, Tree.Kind.REMAINDER, Tree.Kind.DIVIDE_ASSIGNMENT, Tree.Kind.REMAINDER_ASSIGNMENT);
    private static final Set<Tree.Kind> COUNTING = Set.of(
            Tree.Kind.PREFIX_INCREMENT, Tree.Kind.PREFIX_DECREMENT,
            Tree.Kind.POSTFIX_INCREMENT, Tree.Kind.POSTFIX_DECREMENT);

    private final Map<String, Set<String>> callsOf = new TreeMap<>();
    private final Set<String> methods = new TreeSet<>();
    private final Set<String> constants = new TreeSet<>();
    private final Set<String> arrayFields = new TreeSet<>();
    private final CompilationUnitTree unit;
    private int fields = 0;

    private LanguageTest(CompilationUnitTree unit) {
        this.unit = unit;
    }

    public static void main(String[] args) throws IOException {
        JavaCompiler compiler = ToolProvider.getSystemJavaCompiler();
        try (var files = compiler.getStandardFileManager(null, null, null)) {
            JavacTask task = (JavacTask) compiler.getTask(
                    null, files, null, List.of("--release", "17"), null, files.getJavaFileObjects(SOURCE));
            for (CompilationUnitTree unit : task.parse()) {
                LanguageTest test = new LanguageTest(unit);
                test.collectNames();
                test.scan(unit, null);
                test.callsEndAndStayShallow();
                Due.is("rule 10: at most 40 fields", Math.max(test.fields, 40), 40);
            }
        }
        plainLettersAlone();
        Due.end();
    }

    private static void keeps(String rule, Tree where, boolean kept) {
        Due.is(rule + ": " + where.toString().strip().replaceAll("\\s+", " "), kept ? 1 : 0, 1);
    }

    /** An escaped letter could hide a word from whoever reads the source. */
    private static void plainLettersAlone() throws IOException {
        String text = Files.readString(SOURCE);
        Due.is("characters beyond ASCII", text.chars().filter(c -> c > 126).count(), 0);
        Due.is("escaped letters", text.contains("\\u") ? 1 : 0, 0);
    }

    private void collectNames() {
        Due.is("rule 1: types in the file", unit.getTypeDecls().size(), 1);
        for (Tree member : ((ClassTree) unit.getTypeDecls().get(0)).getMembers()) {
            if (member instanceof MethodTree method) {
                keeps("rule 1: no name twice", member, methods.add(method.getName().toString()));
            } else if (member instanceof VariableTree field) {
                collectField(field);
            } else {
                keeps("rule 1: neither method nor field, or rule 5: an initialiser", member, false);
            }
        }
    }

    private void collectField(VariableTree field) {
        String name = field.getName().toString();
        Set<Modifier> modifiers = field.getModifiers().getFlags();
        if (modifiers.contains(Modifier.STATIC)) {
            String type = field.getType().toString();
            keeps("rule 5: a constant", field, modifiers.contains(Modifier.FINAL)
                    && (type.equals("int") || type.equals("long")) && field.getInitializer() != null);
            constants.add(name);
            return;
        }
        fields++;
        if (field.getType().getKind() == Tree.Kind.ARRAY_TYPE) {
            arrayFields.add(name);
        }
    }

    @Override
    public Void scan(Tree tree, Void unused) {
        if (tree != null) {
            keeps("a kind that rules 1 to 6 leave", tree, !RULED_OUT.contains(tree.getKind()));
            keeps("rule 7: no divisor", tree, !DIVIDING.contains(tree.getKind()));
        }
        return super.scan(tree, unused);
    }

    @Override
    public Void visitClass(ClassTree tree, Void unused) {
        keeps("rule 1: the class alone", tree, tree.getSimpleName().contentEquals("SoftSolver")
                && tree.getModifiers().getFlags().equals(Set.of(Modifier.PUBLIC, Modifier.FINAL))
                && tree.getExtendsClause() == null && tree.getImplementsClause().isEmpty());
        return super.visitClass(tree, unused);
    }

    @Override
    public Void visitVariable(VariableTree tree, Void unused) {
        keeps("rule 2: type", tree, isGoodType(tree.getType()));
        return super.visitVariable(tree, unused);
    }

    private static boolean isGoodType(Tree type) {
        if (type == null) {
            return false;
        }
        String name = type.toString();
        return NUMBERS.contains(name.endsWith("[]") ? name.substring(0, name.length() - 2) : name);
    }

    @Override
    public Void visitMethod(MethodTree tree, Void unused) {
        Tree type = tree.getReturnType();
        boolean named = type == null || NUMBERS.contains(type.toString()) || type.toString().equals("void");
        keeps("rules 2 and 4: a number or nothing is answered", tree, named);
        keeps("rule 10: at most seven parameters", tree, tree.getParameters().size() <= 7);
        keeps("rule 10: at most sixty lines", tree, tree.getBody().toString().lines().count() <= 60);
        callsOf.put(tree.getName().toString(), new TreeSet<>());
        return super.visitMethod(tree, unused);
    }

    private MethodTree around() {
        for (TreePath path = getCurrentPath(); path != null; path = path.getParentPath()) {
            if (path.getLeaf() instanceof MethodTree method) {
                return method;
            }
        }
        return null;
    }

    private boolean isInside(Class<? extends Tree> kind) {
        for (TreePath path = getCurrentPath().getParentPath(); path != null; path = path.getParentPath()) {
            if (kind.isInstance(path.getLeaf())) {
                return true;
            }
        }
        return false;
    }

    @Override
    public Void visitMethodInvocation(MethodInvocationTree tree, Void unused) {
        String name = tree.getMethodSelect().toString();
        if (name.equals("super")) {
            return super.visitMethodInvocation(tree, unused);
        }
        keeps("rule 3: a method of the class itself", tree, methods.contains(name));
        keeps("rule 10: no call inside another's arguments", tree, !isInside(MethodInvocationTree.class));
        callsOf.get(around().getName().toString()).add(name);
        return super.visitMethodInvocation(tree, unused);
    }

    @Override
    public Void visitMemberSelect(MemberSelectTree tree, Void unused) {
        keeps("rule 3: the class gets by without a member of anything", tree, false);
        return super.visitMemberSelect(tree, unused);
    }

    @Override
    public Void visitNewArray(NewArrayTree tree, Void unused) {
        boolean atTheStart = around() == null;
        keeps("rule 4: made in a field's initialiser", tree, atTheStart && tree.getInitializers() == null);
        for (ExpressionTree length : tree.getDimensions()) {
            keeps("rule 4: the length is a constant", tree, tree.getDimensions().size() == 1
                    && (length.getKind() == Tree.Kind.INT_LITERAL || constants.contains(length.toString())));
        }
        return super.visitNewArray(tree, unused);
    }

    /** Used by index alone, an array is never answered, compared, handed on or assigned. */
    @Override
    public Void visitIdentifier(IdentifierTree tree, Void unused) {
        if (arrayFields.contains(tree.getName().toString())) {
            boolean indexed = getCurrentPath().getParentPath().getLeaf() instanceof ArrayAccessTree access
                    && access.getExpression() == tree;
            keeps("rule 4: an array is used by index alone", tree, indexed);
        }
        return super.visitIdentifier(tree, unused);
    }

    @Override
    public Void visitTypeCast(TypeCastTree tree, Void unused) {
        keeps("rule 6: a cast between numbers", tree, NUMBERS.contains(tree.getType().toString()));
        return super.visitTypeCast(tree, unused);
    }

    /** The form that the class gets by with: for (int i = first; i < bound; i++). */
    @Override
    public Void visitForLoop(ForLoopTree tree, Void unused) {
        boolean oneOfEach = tree.getInitializer().size() == 1 && tree.getUpdate().size() == 1;
        boolean counts = oneOfEach && tree.getInitializer().get(0) instanceof VariableTree counter
                && tree.getCondition() instanceof BinaryTree condition
                && condition.getKind() == Tree.Kind.LESS_THAN
                && condition.getLeftOperand().toString().equals(counter.getName().toString())
                && condition.getRightOperand().getKind() == Tree.Kind.IDENTIFIER
                && tree.getUpdate().get(0).getExpression().toString().equals(counter.getName() + "++")
                && leavesAlone(tree.getStatement(), counter.getName().toString())
                && leavesAlone(tree.getStatement(), condition.getRightOperand().toString());
        keeps("rule 8: a counter against a bound", tree, counts);
        return super.visitForLoop(tree, unused);
    }

    /** Sees what the body assigns itself, not what a method it calls may assign. */
    private static boolean leavesAlone(Tree body, String name) {
        Set<String> changed = new TreeSet<>();
        new TreeScanner<Void, Void>() {
            @Override
            public Void visitAssignment(AssignmentTree tree, Void unused) {
                changed.add(tree.getVariable().toString());
                return super.visitAssignment(tree, unused);
            }

            @Override
            public Void visitCompoundAssignment(CompoundAssignmentTree tree, Void unused) {
                changed.add(tree.getVariable().toString());
                return super.visitCompoundAssignment(tree, unused);
            }

            @Override
            public Void visitUnary(UnaryTree tree, Void unused) {
                changed.add(COUNTING.contains(tree.getKind()) ? tree.getExpression().toString() : "");
                return super.visitUnary(tree, unused);
            }
        }.scan(body, null);
        return !changed.contains(name);
    }

    @Override
    public Void visitWhileLoop(WhileLoopTree tree, Void unused) {
        keeps("rule 8: the class gets by with for loops", tree, false);
        return super.visitWhileLoop(tree, unused);
    }

    @Override
    public Void visitDoWhileLoop(DoWhileLoopTree tree, Void unused) {
        keeps("rule 8: the class gets by with for loops", tree, false);
        return super.visitDoWhileLoop(tree, unused);
    }

    /** Takes out the methods whose calls are all told already; what never gets out is a circle. */
    private void callsEndAndStayShallow() {
        Map<String, Integer> depth = new HashMap<>();
        boolean more = true;
        while (more) {
            more = false;
            for (String method : new ArrayList<>(callsOf.keySet())) {
                if (!depth.containsKey(method) && depth.keySet().containsAll(callsOf.get(method))) {
                    int below = callsOf.get(method).stream().mapToInt(depth::get).max().orElse(0);
                    depth.put(method, below + 1);
                    more = true;
                }
            }
        }
        for (String method : callsOf.keySet()) {
            Due.is("rule 8: " + method + " is not recursive", depth.containsKey(method) ? 1 : 0, 1);
            Due.is("rule 10: " + method + " is at most six deep", Math.max(depth.getOrDefault(method, 7), 6), 6);
        }
    }
}
