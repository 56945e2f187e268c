import com.sun.source.tree.AssertTree;
import com.sun.source.tree.AssignmentTree;
import com.sun.source.tree.BinaryTree;
import com.sun.source.tree.ClassTree;
import com.sun.source.tree.CompilationUnitTree;
import com.sun.source.tree.CompoundAssignmentTree;
import com.sun.source.tree.DoWhileLoopTree;
import com.sun.source.tree.EnhancedForLoopTree;
import com.sun.source.tree.ExpressionTree;
import com.sun.source.tree.ForLoopTree;
import com.sun.source.tree.IdentifierTree;
import com.sun.source.tree.ImportTree;
import com.sun.source.tree.LambdaExpressionTree;
import com.sun.source.tree.LiteralTree;
import com.sun.source.tree.MemberReferenceTree;
import com.sun.source.tree.MethodInvocationTree;
import com.sun.source.tree.MethodTree;
import com.sun.source.tree.NewArrayTree;
import com.sun.source.tree.NewClassTree;
import com.sun.source.tree.SynchronizedTree;
import com.sun.source.tree.ThrowTree;
import com.sun.source.tree.Tree;
import com.sun.source.tree.TryTree;
import com.sun.source.tree.TypeCastTree;
import com.sun.source.tree.UnaryTree;
import com.sun.source.tree.VariableTree;
import com.sun.source.tree.WhileLoopTree;
import com.sun.source.util.JavacTask;
import com.sun.source.util.TreePath;
import com.sun.source.util.TreePathScanner;
import com.sun.source.util.Trees;
import java.nio.file.Files;
import java.nio.file.Path;
import java.util.List;
import java.util.Map;
import java.util.Set;
import java.util.TreeMap;
import java.util.TreeSet;
import javax.lang.model.element.Element;
import javax.lang.model.element.ElementKind;
import javax.lang.model.element.ExecutableElement;
import javax.lang.model.element.Modifier;
import javax.lang.model.element.VariableElement;
import javax.lang.model.type.TypeMirror;
import javax.tools.JavaCompiler;
import javax.tools.ToolProvider;

/**
 * The rules of LANGUAGE.md that can be seen in the program, read by the compiler's own reader. It asks for more than
 * the rules where the program gives more: no call makes an object, and every divisor is a constant that is not 0.
 * The rules on names, fields and parameters are in FaceTests.
 */
public final class LanguageTests extends TreePathScanner<Void, Void> {
    private static final Path PROGRAM = Path.of("src/main/java/ComparatorNetworks.java");
    private static final String NAME = "ComparatorNetworks";
    private static final Set<String> LIBRARY = Set.of(
        "System.arraycopy", "Arrays.fill", "Math.max", "Math.min", "Integer.bitCount", "Long.bitCount");
    private static final Set<String> STATIC_TYPES = Set.of(
        "int", "long", "boolean", "char", "java.lang.String", "int[]", "long[]", "char[]", "byte[]");
    private static final Set<String> NUMBERS = Set.of("int", "long", "boolean", "short", "byte", "char");
    private static final int LONGEST_METHOD = 60;
    private static final int MOST_CLASSES = 12;
    private static final int MOST_PARAMETERS = 7;
    private static final int DEEPEST_CALL = 8;
    private static final Set<String> RECURSIVE = Set.of("ComparatorNetworks.Renaming.search");

    private static int wrong = 0;

    private final Trees trees;
    private final CompilationUnitTree unit;
    private final Map<String, Set<String>> calls = new TreeMap<>();
    private final Set<String> faceMethods = new TreeSet<>();
    private String method = "";
    private boolean inConstructor = false;
    private int classes = 0;

    private LanguageTests(Trees trees, CompilationUnitTree unit) {
        this.trees = trees;
        this.unit = unit;
    }

    public static void main(String[] args) throws Exception {
        String text = Files.readString(PROGRAM);
        for (int k = 0; k < text.length(); k++) {
            if (text.charAt(k) > 126) {
                fault("a sign beyond 126 at " + k);
            }
        }
        JavaCompiler compiler = ToolProvider.getSystemJavaCompiler();
        try (var files = compiler.getStandardFileManager(null, null, null)) {
            JavacTask task = (JavacTask) compiler.getTask(null, files, null, List.of("-proc:none", "--release", "17"),
                null, files.getJavaFileObjects(PROGRAM));
            for (CompilationUnitTree unit : task.parse()) {
                task.analyze();
                LanguageTests reader = new LanguageTests(Trees.instance(task), unit);
                reader.scan(unit, null);
                reader.checkCalls();
            }
        }
        System.out.println(wrong == 0 ? "the program keeps to the language" : wrong + " faults");
        if (wrong != 0) System.exit(1);
    }

    private static void fault(String what) {
        wrong++;
        System.out.println(what);
    }

    private void faultAt(Tree tree, String what) {
        fault("line " + lineOf(trees.getSourcePositions().getStartPosition(unit, tree)) + ": " + what);
    }

    private long lineOf(long position) {
        return unit.getLineMap().getLineNumber(position);
    }

    private Element elementOf(Tree tree) {
        return trees.getElement(new TreePath(getCurrentPath(), tree));
    }

    private String typeOf(Tree tree) {
        TypeMirror type = trees.getTypeMirror(new TreePath(getCurrentPath(), tree));
        return type == null ? "" : type.toString();
    }

    private static boolean isOwn(String type) {
        return type.equals(NAME) || type.startsWith(NAME + ".");
    }

    private static String nameOf(Element element) {
        return element.getEnclosingElement() + "." + element.getSimpleName();
    }

    // ---- classes and fields ----

    @Override
    public Void visitCompilationUnit(CompilationUnitTree tree, Void none) {
        if (tree.getPackageName() != null || tree.getTypeDecls().size() != 1) {
            fault("rule 1: one class without a package");
        }
        return super.visitCompilationUnit(tree, none);
    }

    @Override
    public Void visitImport(ImportTree tree, Void none) {
        if (!Set.of("java.util.Arrays", "java.util.ArrayList", "java.util.List")
                .contains(tree.getQualifiedIdentifier().toString())) {
            faultAt(tree, "rule 4: imports " + tree.getQualifiedIdentifier());
        }
        return null;
    }

    @Override
    public Void visitClass(ClassTree tree, Void none) {
        classes++;
        Element element = trees.getElement(getCurrentPath());
        boolean inside = element.getEnclosingElement().getKind().isClass();
        Set<Modifier> modifiers = element.getModifiers();
        if (element.getSimpleName().toString().isEmpty() || element.getEnclosingElement() instanceof ExecutableElement) {
            faultAt(tree, "rule 2: an anonymous or local class");
        } else if (inside && (!modifiers.contains(Modifier.STATIC) || modifiers.contains(Modifier.PUBLIC)
                || modifiers.contains(Modifier.PROTECTED))) {
            faultAt(tree, "rule 1: " + element + " is not static and private or package-visible");
        }
        if (classes > MOST_CLASSES) {
            faultAt(tree, "rule 11: too many classes");
        }
        for (Tree member : tree.getMembers()) {
            if (member.getKind() == Tree.Kind.BLOCK) {
                faultAt(member, "rule 5: an initialiser block");
            }
        }
        return super.visitClass(tree, none);
    }

    @Override
    public Void visitVariable(VariableTree tree, Void none) {
        Element element = trees.getElement(getCurrentPath());
        String type = element.asType().toString();
        String part = type.replaceFirst("\\[\\]$", "");
        if (!NUMBERS.contains(part) && !isOwn(part)) {
            faultAt(tree, "rule 3: " + tree.getName() + " is of type " + type);
        }
        if (element.getKind() == ElementKind.FIELD && element.getModifiers().contains(Modifier.STATIC)) {
            checkConstant(tree, element, type);
        }
        return super.visitVariable(tree, none);
    }

    private void checkConstant(VariableTree tree, Element element, String type) {
        if (!element.getModifiers().contains(Modifier.FINAL) || !STATIC_TYPES.contains(type)) {
            faultAt(tree, "rule 5: the static field " + tree.getName());
        }
        boolean array = type.endsWith("[]");
        ExpressionTree initial = tree.getInitializer();
        if (array && !(initial instanceof NewArrayTree written && written.getInitializers() != null)) {
            faultAt(tree, "rule 5: the array " + tree.getName() + " is not written out");
        }
        if (!array && ((VariableElement) element).getConstantValue() == null) {
            faultAt(tree, "rule 5: " + tree.getName() + " is no constant");
        }
    }

    // ---- methods ----

    @Override
    public Void visitMethod(MethodTree tree, Void none) {
        Element element = trees.getElement(getCurrentPath());
        method = nameOf(element);
        inConstructor = element.getKind() == ElementKind.CONSTRUCTOR;
        calls.putIfAbsent(method, new TreeSet<>());
        if (element.getModifiers().contains(Modifier.PUBLIC)) {
            faceMethods.add(method);
        }
        if (tree.getParameters().size() > MOST_PARAMETERS) {
            faultAt(tree, "rule 11: too many parameters");
        }
        long first = lineOf(trees.getSourcePositions().getStartPosition(unit, tree));
        long last = lineOf(Math.max(0, trees.getSourcePositions().getEndPosition(unit, tree)));
        if (last - first >= LONGEST_METHOD) {
            faultAt(tree, "rule 11: " + method + " is long");
        }
        super.visitMethod(tree, none);
        method = "";
        inConstructor = false;
        return null;
    }

    @Override
    public Void visitMethodInvocation(MethodInvocationTree tree, Void none) {
        Element called = elementOf(tree.getMethodSelect());
        String owner = called.getEnclosingElement().toString();
        if (called.getKind() == ElementKind.CONSTRUCTOR) {
            return super.visitMethodInvocation(tree, none);
        }
        if (isOwn(owner)) {
            calls.computeIfAbsent(method, name -> new TreeSet<>()).add(nameOf(called));
            if (inConstructor) {
                faultAt(tree, "rule 12: a constructor calls " + called);
            }
        } else if (!LIBRARY.contains(owner.substring(owner.lastIndexOf('.') + 1) + "." + called.getSimpleName())) {
            faultAt(tree, "rule 4: calls " + owner + "." + called);
        }
        return super.visitMethodInvocation(tree, none);
    }

    private void checkCalls() {
        for (String name : faceMethods) {
            int depth = depthOf(name, Set.of());
            if (depth > DEEPEST_CALL) {
                fault("rule 11: " + name + " goes " + depth + " calls deep");
            }
        }
    }

    /** How many methods stand open at once, a recursive one counted once. */
    private int depthOf(String name, Set<String> open) {
        Set<String> now = new TreeSet<>(open);
        now.add(name);
        int deepest = 0;
        for (String called : calls.getOrDefault(name, Set.of())) {
            if (!now.contains(called)) {
                deepest = Math.max(deepest, depthOf(called, now));
            } else if (!called.equals(name) || !RECURSIVE.contains(name)) {
                fault("rule 8: " + name + " calls " + called + " again");
            }
        }
        return 1 + deepest;
    }

    // ---- what is made ----

    @Override
    public Void visitNewClass(NewClassTree tree, Void none) {
        if (!isOwn(typeOf(tree))) {
            faultAt(tree, "rule 4: makes " + tree.getIdentifier());
        }
        checkMaking(tree);
        return super.visitNewClass(tree, none);
    }

    @Override
    public Void visitNewArray(NewArrayTree tree, Void none) {
        checkMaking(tree);
        for (ExpressionTree length : tree.getDimensions()) {
            Number number = constantOf(length);
            if (number == null || number.longValue() < 0) {
                faultAt(tree, "rule 7: the length " + length + " is no constant");
            }
        }
        return super.visitNewArray(tree, none);
    }

    private void checkMaking(Tree tree) {
        if (!method.isEmpty() && !inConstructor) {
            faultAt(tree, "rule 12: " + method + " makes " + tree);
        }
    }

    // ---- expressions ----

    /** The value of a constant, a literal, or a sum, difference, product, quotient or shift of these, else null. */
    private Number constantOf(ExpressionTree tree) {
        if (tree instanceof LiteralTree literal && literal.getValue() instanceof Number number) {
            return number;
        }
        if (tree instanceof IdentifierTree && elementOf(tree) instanceof VariableElement variable
                && variable.getConstantValue() instanceof Number number) {
            return number;
        }
        if (tree instanceof BinaryTree both) {
            Number left = constantOf(both.getLeftOperand());
            Number right = constantOf(both.getRightOperand());
            return left == null || right == null ? null : joined(both.getKind(), left.longValue(), right.longValue());
        }
        return null;
    }

    private static Number joined(Tree.Kind kind, long left, long right) {
        return switch (kind) {
            case PLUS -> left + right;
            case MINUS -> left - right;
            case MULTIPLY -> left * right;
            case DIVIDE -> right == 0 ? null : left / right;
            case LEFT_SHIFT -> left << right;
            default -> null;
        };
    }

    private void checkDivisor(Tree tree, ExpressionTree divisor) {
        Number number = constantOf(divisor);
        if (number == null || number.longValue() == 0) {
            faultAt(tree, "rule 7: divides by " + divisor);
        }
    }

    @Override
    public Void visitBinary(BinaryTree tree, Void none) {
        if (tree.getKind() == Tree.Kind.DIVIDE || tree.getKind() == Tree.Kind.REMAINDER) {
            checkDivisor(tree, tree.getRightOperand());
        }
        return super.visitBinary(tree, none);
    }

    @Override
    public Void visitCompoundAssignment(CompoundAssignmentTree tree, Void none) {
        if (tree.getKind() == Tree.Kind.DIVIDE_ASSIGNMENT || tree.getKind() == Tree.Kind.REMAINDER_ASSIGNMENT) {
            checkDivisor(tree, tree.getExpression());
        }
        checkAssigned(tree, tree.getVariable());
        return super.visitCompoundAssignment(tree, none);
    }

    @Override
    public Void visitAssignment(AssignmentTree tree, Void none) {
        checkAssigned(tree, tree.getVariable());
        return super.visitAssignment(tree, none);
    }

    /** A constant's row is never changed: what is assigned names no constant before its index. */
    private void checkAssigned(Tree tree, ExpressionTree variable) {
        String row = variable.toString().replaceFirst("\\[.*", "");
        if (row.matches("(\\w+\\.)*[A-Z][A-Z_]+")) {
            faultAt(tree, "rule 5: changes " + row);
        }
    }

    @Override
    public Void visitTypeCast(TypeCastTree tree, Void none) {
        if (!NUMBERS.contains(tree.getType().toString())) {
            faultAt(tree, "rule 6: a cast to " + tree.getType());
        }
        return super.visitTypeCast(tree, none);
    }

    // ---- loops ----

    @Override
    public Void visitForLoop(ForLoopTree tree, Void none) {
        boolean counted = tree.getInitializer().size() == 1
            && tree.getInitializer().get(0) instanceof VariableTree counter
            && tree.getUpdate().size() == 1
            && tree.getCondition() != null
            && hasBound(tree.getCondition(), counter.getName().toString(),
                stepOf(tree.getUpdate().get(0).getExpression(), counter.getName().toString()));
        if (!counted) {
            faultAt(tree, "rule 9: no counter against a bound: for " + tree.getCondition());
        }
        return super.visitForLoop(tree, none);
    }

    /** The direction in which the counter goes: 1 or -1, or 0 for a step that this test does not know. */
    private static int stepOf(ExpressionTree step, String counter) {
        if (step instanceof UnaryTree unary && unary.getExpression().toString().equals(counter)) {
            return unary.getKind() == Tree.Kind.POSTFIX_INCREMENT ? 1
                : unary.getKind() == Tree.Kind.POSTFIX_DECREMENT ? -1 : 0;
        }
        if (step instanceof CompoundAssignmentTree change && change.getVariable().toString().equals(counter)
                && change.getExpression().toString().equals("2")) {
            return change.getKind() == Tree.Kind.PLUS_ASSIGNMENT ? 1
                : change.getKind() == Tree.Kind.DIVIDE_ASSIGNMENT ? -1 : 0;
        }
        return 0;
    }

    private static boolean hasBound(ExpressionTree condition, String counter, int step) {
        if (!(condition instanceof BinaryTree both) || step == 0) {
            return false;
        }
        if (both.getKind() == Tree.Kind.CONDITIONAL_AND) {
            return hasBound(both.getLeftOperand(), counter, step) || hasBound(both.getRightOperand(), counter, step);
        }
        Set<Tree.Kind> fitting = step > 0 ? Set.of(Tree.Kind.LESS_THAN, Tree.Kind.LESS_THAN_EQUAL)
            : Set.of(Tree.Kind.GREATER_THAN, Tree.Kind.GREATER_THAN_EQUAL);
        return fitting.contains(both.getKind()) && both.getLeftOperand().toString().matches(counter + "( \\+ \\w+)?");
    }

    /** A while loop counts down to 0 by its last statement. */
    @Override
    public Void visitWhileLoop(WhileLoopTree tree, Void none) {
        String[] lines = tree.getStatement().toString().trim().split("\n");
        String last = lines.length > 1 ? lines[lines.length - 2].trim() : "";
        String counter = last.endsWith("--;") ? last.substring(0, last.length() - 3) : "";
        if (counter.isEmpty() || !tree.getCondition().toString().startsWith("(" + counter + " > 0 && ")) {
            faultAt(tree, "rule 9: no counter against a bound: while " + tree.getCondition());
        }
        return super.visitWhileLoop(tree, none);
    }

    @Override
    public Void visitDoWhileLoop(DoWhileLoopTree tree, Void none) {
        faultAt(tree, "rule 9: a loop whose end this test cannot see");
        return super.visitDoWhileLoop(tree, none);
    }

    @Override
    public Void visitEnhancedForLoop(EnhancedForLoopTree tree, Void none) {
        if (!typeOf(tree.getExpression()).endsWith("[]")) {
            faultAt(tree, "rule 12: a loop over what is no array");
        }
        return super.visitEnhancedForLoop(tree, none);
    }

    // ---- what is not there at all ----

    @Override
    public Void visitLambdaExpression(LambdaExpressionTree tree, Void none) {
        faultAt(tree, "rule 2: a lambda");
        return null;
    }

    @Override
    public Void visitMemberReference(MemberReferenceTree tree, Void none) {
        faultAt(tree, "rule 2: a method reference");
        return null;
    }

    @Override
    public Void visitThrow(ThrowTree tree, Void none) {
        faultAt(tree, "rule 6: throw");
        return null;
    }

    @Override
    public Void visitTry(TryTree tree, Void none) {
        faultAt(tree, "rule 6: try");
        return null;
    }

    @Override
    public Void visitSynchronized(SynchronizedTree tree, Void none) {
        faultAt(tree, "rule 6: synchronized");
        return null;
    }

    @Override
    public Void visitAssert(AssertTree tree, Void none) {
        faultAt(tree, "rule 6: assert");
        return null;
    }
}
