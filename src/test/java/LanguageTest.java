import com.sun.source.tree.AssertTree;
import com.sun.source.tree.AssignmentTree;
import com.sun.source.tree.BinaryTree;
import com.sun.source.tree.BlockTree;
import com.sun.source.tree.ClassTree;
import com.sun.source.tree.CompilationUnitTree;
import com.sun.source.tree.CompoundAssignmentTree;
import com.sun.source.tree.DoWhileLoopTree;
import com.sun.source.tree.EnhancedForLoopTree;
import com.sun.source.tree.ExpressionTree;
import com.sun.source.tree.ForLoopTree;
import com.sun.source.tree.IdentifierTree;
import com.sun.source.tree.InstanceOfTree;
import com.sun.source.tree.LambdaExpressionTree;
import com.sun.source.tree.LiteralTree;
import com.sun.source.tree.MemberReferenceTree;
import com.sun.source.tree.MethodInvocationTree;
import com.sun.source.tree.MethodTree;
import com.sun.source.tree.NewArrayTree;
import com.sun.source.tree.NewClassTree;
import com.sun.source.tree.SynchronizedTree;
import com.sun.source.tree.ThrowTree;
import com.sun.source.tree.Tree;
import com.sun.source.tree.TryTree;
import com.sun.source.tree.TypeCastTree;
import com.sun.source.tree.UnaryTree;
import com.sun.source.tree.VariableTree;
import com.sun.source.tree.WhileLoopTree;
import com.sun.source.util.JavacTask;
import com.sun.source.util.TreePath;
import com.sun.source.util.TreePathScanner;
import com.sun.source.util.Trees;
import java.io.IOException;
import java.nio.file.Files;
import java.nio.file.Path;
import java.util.LinkedHashMap;
import java.util.LinkedHashSet;
import java.util.List;
import java.util.Map;
import java.util.Set;
import javax.lang.model.element.Element;
import javax.lang.model.element.ElementKind;
import javax.lang.model.element.ExecutableElement;
import javax.lang.model.element.Modifier;
import javax.lang.model.element.TypeElement;
import javax.lang.model.element.VariableElement;
import javax.lang.model.type.ArrayType;
import javax.lang.model.type.DeclaredType;
import javax.lang.model.type.TypeKind;
import javax.lang.model.type.TypeMirror;
import javax.tools.JavaCompiler;
import javax.tools.StandardJavaFileManager;
import javax.tools.ToolProvider;

/**
 * Holds the class against LANGUAGE.md, as the compiler reads it. Where the class needs less than a rule allows (no try,
 * no while, objects made in constructors alone), the test asks for that, so that there is less to look at.
 */
public final class LanguageTest extends TreePathScanner<Void, Void> {
    private static final Checks CHECKS = new Checks();
    private static final Path SOURCE = Path.of("src/main/java/InterlockingBox.java");
    private static final int MOST_PARAMETERS = 7;
    private static final int MOST_LINES = 60;
    private static final int MOST_CALLS_DEEP = 8;
    private static final int MOST_CLASSES = 12;
    private static final int MOST_FIELDS = 20;
    private static final Set<String> EXCEPTIONS = Set.of("IllegalStateException", "IllegalArgumentException",
            "IndexOutOfBoundsException", "ArithmeticException", "UnsupportedOperationException",
            "NoSuchElementException", "RuntimeException");
    private static final Set<String> LIBRARY = Set.of("java.lang.String.length()", "java.lang.String.charAt(int)",
            "java.lang.StringBuilder.append(char)", "java.lang.StringBuilder.append(int)",
            "java.lang.StringBuilder.append(java.lang.String)", "java.lang.AbstractStringBuilder.charAt(int)",
            "java.lang.AbstractStringBuilder.setLength(int)", "java.lang.AbstractStringBuilder.length()",
            "java.lang.Integer.bitCount(int)", "java.lang.Math.max(int,int)", "java.lang.Math.min(int,int)",
            "java.lang.System.arraycopy(java.lang.Object,int,java.lang.Object,int,int)",
            "java.util.Arrays.fill(int[],int)");
    private static final Set<String> LIBRARY_CLASSES = Set.of("java.lang.String", "java.lang.StringBuilder");

    private final CompilationUnitTree unit;
    private final Trees trees;
    private final Map<ExecutableElement, Set<ExecutableElement>> calls = new LinkedHashMap<>();
    private int classes = 0;

    private LanguageTest(CompilationUnitTree unit, Trees trees) {
        this.unit = unit;
        this.trees = trees;
    }

    public static void main(String[] args) throws IOException {
        JavaCompiler compiler = ToolProvider.getSystemJavaCompiler();
        try (StandardJavaFileManager files = compiler.getStandardFileManager(null, null, null)) {
            List<String> options = List.of("--release", "17", "-proc:none");
            JavacTask task = (JavacTask) compiler.getTask(null, files, null, options, null,
                    files.getJavaFileObjects(SOURCE));
            CompilationUnitTree unit = task.parse().iterator().next();
            task.analyze();
            LanguageTest test = new LanguageTest(unit, Trees.instance(task));
            test.scan(unit, null);
            test.wholeFile();
        }
        CHECKS.end();
    }

    private void wholeFile() throws IOException {
        String text = Files.readString(SOURCE);
        due(3, unit.getPackageName() == null, "the file has no package line");
        due(1, unit.getTypeDecls().size() == 1, "the file has one class");
        due(4, text.chars().allMatch(sign -> sign < 128), "the text is of ASCII alone");
        due(11, classes <= MOST_CLASSES, "there are at most twelve classes");
        names();
        for (ExecutableElement method : calls.keySet()) {
            int depth = depth(method, new LinkedHashSet<>());
            due(11, depth <= MOST_CALLS_DEEP, name(method) + " is at most eight calls deep, which are " + depth);
        }
    }

    private void names() {
        Set<String> shown = new LinkedHashSet<>();
        for (ExecutableElement method : calls.keySet()) {
            if (method.getModifiers().contains(Modifier.PUBLIC)) {
                shown.add(method.getSimpleName().toString());
            }
        }
        for (ExecutableElement method : calls.keySet()) {
            boolean isHidden = method.getKind() == ElementKind.METHOD
                    && method.getModifiers().contains(Modifier.PRIVATE);
            boolean isNameShown = shown.contains(method.getSimpleName().toString());
            due(1, !isHidden || !isNameShown, name(method) + " does not bear the name of a public one");
        }
    }

    /** The calls that stand open at most, without those of a method to itself. */
    private int depth(ExecutableElement method, Set<ExecutableElement> open) {
        if (!open.add(method)) {
            due(8, false, "no methods call one another in a circle: " + open);
            return 0;
        }
        int deepest = 0;
        for (ExecutableElement called : calls.getOrDefault(method, Set.of())) {
            if (!called.equals(method)) {
                deepest = Math.max(deepest, depth(called, open));
            }
        }
        open.remove(method);
        return deepest + 1;
    }

    private static void due(int rule, boolean holds, String what) {
        CHECKS.part("rule " + rule);
        CHECKS.due(true, holds, what + ":");
    }

    private void never(int rule, Tree tree) {
        due(rule, false, "there is no " + tree.getKind() + " as in line " + line(tree));
    }

    private long line(Tree tree) {
        long start = trees.getSourcePositions().getStartPosition(unit, tree);
        return unit.getLineMap().getLineNumber(start);
    }

    private Element element(Tree tree) {
        return trees.getElement(new TreePath(getCurrentPath(), tree));
    }

    private TypeMirror type(Tree tree) {
        return trees.getTypeMirror(new TreePath(getCurrentPath(), tree));
    }

    private static String name(Element element) {
        return element.getEnclosingElement() + "." + element;
    }

    private static boolean isOwn(TypeElement type) {
        Element outer = type;
        while (outer.getEnclosingElement() instanceof TypeElement) {
            outer = outer.getEnclosingElement();
        }
        return outer.getSimpleName().contentEquals("InterlockingBox");
    }

    private ExecutableElement method() {
        for (TreePath path = getCurrentPath(); path != null; path = path.getParentPath()) {
            if (path.getLeaf() instanceof MethodTree) {
                return (ExecutableElement) trees.getElement(path);
            }
        }
        return null;
    }

    /** Only there the number of objects does not grow with the calls. */
    private boolean isInConstructorOrField() {
        ExecutableElement method = method();
        return method == null || method.getKind() == ElementKind.CONSTRUCTOR;
    }

    // ---- rules 1, 2 and 11: classes and methods

    @Override
    public Void visitClass(ClassTree tree, Void none) {
        classes++;
        Element type = trees.getElement(getCurrentPath());
        if (type.getEnclosingElement() instanceof TypeElement) {
            boolean isShown = type.getModifiers().contains(Modifier.PUBLIC)
                    || type.getModifiers().contains(Modifier.PROTECTED);
            due(1, !isShown, type + " is neither public nor protected");
            due(1, type.getModifiers().contains(Modifier.STATIC), type + " is static");
        } else {
            due(2, getCurrentPath().getParentPath().getLeaf() == unit, type + " stands within no method");
        }
        long fields = tree.getMembers().stream().filter(this::isObjectField).count();
        due(11, fields <= MOST_FIELDS, type + " has at most twenty fields");
        due(5, tree.getMembers().stream().noneMatch(member -> member instanceof BlockTree), type + " has no blocks");
        return super.visitClass(tree, none);
    }

    private boolean isObjectField(Tree member) {
        return member instanceof VariableTree && !element(member).getModifiers().contains(Modifier.STATIC);
    }

    @Override
    public Void visitMethod(MethodTree tree, Void none) {
        ExecutableElement method = (ExecutableElement) trees.getElement(getCurrentPath());
        long end = trees.getSourcePositions().getEndPosition(unit, tree);
        boolean isMade = end < 0 || line(tree) == line(getCurrentPath().getParentPath().getLeaf());
        if (!isMade) {
            long lines = unit.getLineMap().getLineNumber(end) - line(tree) + 1;
            due(11, lines <= MOST_LINES, name(method) + " is short");
        }
        due(11, tree.getParameters().size() <= MOST_PARAMETERS, name(method) + " takes at most seven parameters");
        due(10, !method.getModifiers().contains(Modifier.SYNCHRONIZED), name(method) + " is not synchronized");
        calls.putIfAbsent(method, new LinkedHashSet<>());
        return super.visitMethod(tree, none);
    }

    @Override
    public Void visitLambdaExpression(LambdaExpressionTree tree, Void none) {
        never(2, tree);
        return null;
    }

    @Override
    public Void visitMemberReference(MemberReferenceTree tree, Void none) {
        never(2, tree);
        return null;
    }

    // ---- rules 3 and 5: types and fields

    @Override
    public Void visitVariable(VariableTree tree, Void none) {
        VariableElement variable = (VariableElement) trees.getElement(getCurrentPath());
        String place = variable + " in line " + line(tree);
        due(3, isAllowed(variable.asType()), place + " is of a type that rule 3 lists");
        if (variable.getModifiers().contains(Modifier.STATIC)) {
            due(5, variable.getModifiers().contains(Modifier.FINAL), place + " is final");
            boolean isConstant = variable.getConstantValue() != null
                    || variable.getKind() == ElementKind.ENUM_CONSTANT || isValues(tree.getInitializer());
            due(5, isConstant, place + " is a constant");
        }
        return super.visitVariable(tree, none);
    }

    private static boolean isValues(ExpressionTree tree) {
        return tree instanceof MethodInvocationTree && tree.toString().endsWith(".values()");
    }

    private static boolean isAllowed(TypeMirror type) {
        if (type.getKind() == TypeKind.ARRAY) {
            TypeMirror part = ((ArrayType) type).getComponentType();
            boolean isOfNumbers = part.getKind() == TypeKind.ARRAY
                    && ((ArrayType) part).getComponentType().getKind().isPrimitive();
            return isOfNumbers || part.getKind() != TypeKind.ARRAY && isAllowed(part);
        }
        if (type.getKind() == TypeKind.DECLARED) {
            TypeElement element = (TypeElement) ((DeclaredType) type).asElement();
            return isOwn(element) || LIBRARY_CLASSES.contains(element.toString());
        }
        return type.getKind().isPrimitive();
    }

    // ---- rules 4 and 12: the library, and what is made

    @Override
    public Void visitMethodInvocation(MethodInvocationTree tree, Void none) {
        ExecutableElement called = (ExecutableElement) trees.getElement(getCurrentPath());
        if (isOwn((TypeElement) called.getEnclosingElement())) {
            noteCall(called, tree);
        } else if (called.getKind() != ElementKind.CONSTRUCTOR) {
            due(4, LIBRARY.contains(name(called)), name(called) + " in line " + line(tree) + " is listed");
        }
        return super.visitMethodInvocation(tree, none);
    }

    private void noteCall(ExecutableElement called, MethodInvocationTree tree) {
        ExecutableElement caller = method();
        if (called.getSimpleName().contentEquals("values")) {
            due(5, caller == null, "values() is kept once");
        } else if (caller != null) {
            calls.computeIfAbsent(caller, key -> new LinkedHashSet<>()).add(called);
            boolean isHidden = called.getModifiers().containsAll(Set.of(Modifier.PRIVATE, Modifier.STATIC));
            boolean isCounted = tree.getArguments().stream().anyMatch(given -> given.toString().endsWith(" + 1"));
            due(8, !called.equals(caller) || isHidden && isCounted, name(called)
                    + ", if it calls itself, is private and static, and counts how deep it is");
        }
    }

    @Override
    public Void visitNewClass(NewClassTree tree, Void none) {
        ExecutableElement made = (ExecutableElement) trees.getElement(getCurrentPath());
        TypeElement type = (TypeElement) made.getEnclosingElement();
        boolean isThrown = getCurrentPath().getParentPath().getLeaf() instanceof ThrowTree;
        boolean isBuilder = type.toString().equals("java.lang.StringBuilder") && made.getParameters().isEmpty();
        due(4, isThrown || isOwn(type) || isBuilder, "new " + type + " in line " + line(tree) + " is listed");
        boolean isKept = isInConstructorOrField();
        due(12, isThrown || isKept, "new " + type + " in line " + line(tree) + " is made but once");
        due(2, tree.getClassBody() == null || type.getKind() == ElementKind.ENUM, "there is no nameless class");
        if (isOwn(type) && method() != null) {
            calls.computeIfAbsent(method(), key -> new LinkedHashSet<>()).add(made);
        }
        return super.visitNewClass(tree, none);
    }

    @Override
    public Void visitNewArray(NewArrayTree tree, Void none) {
        due(12, isInConstructorOrField(), "the array of line " + line(tree) + " is made but once");
        for (ExpressionTree length : tree.getDimensions()) {
            due(7, isPositive(length), "the length " + length + " in line " + line(tree) + " is a constant");
        }
        return super.visitNewArray(tree, none);
    }

    // ---- rule 6: exceptions, casts and comparisons

    @Override
    public Void visitThrow(ThrowTree tree, Void none) {
        String place = tree + " in line " + line(tree);
        boolean isNew = tree.getExpression() instanceof NewClassTree;
        due(6, isNew, place + " throws what is new");
        if (isNew) {
            NewClassTree made = (NewClassTree) tree.getExpression();
            due(6, EXCEPTIONS.contains(made.getIdentifier().toString()), place + " throws what rule 6 lists");
            boolean isWritten = made.getArguments().stream().allMatch(text -> text instanceof LiteralTree);
            due(6, made.getArguments().size() <= 1 && isWritten, place + " has a written text");
        }
        due(6, !isInConstructorOrField(), place + " stands in no constructor");
        return super.visitThrow(tree, none);
    }

    @Override
    public Void visitTry(TryTree tree, Void none) {
        never(6, tree);
        return null;
    }

    @Override
    public Void visitSynchronized(SynchronizedTree tree, Void none) {
        never(6, tree);
        return null;
    }

    @Override
    public Void visitAssert(AssertTree tree, Void none) {
        never(6, tree);
        return null;
    }

    @Override
    public Void visitInstanceOf(InstanceOfTree tree, Void none) {
        never(6, tree);
        return null;
    }

    @Override
    public Void visitTypeCast(TypeCastTree tree, Void none) {
        due(6, type(tree.getType()).getKind().isPrimitive(), "the cast in line " + line(tree) + " is one of numbers");
        return super.visitTypeCast(tree, none);
    }

    // ---- rules 6, 7 and 10: operators

    @Override
    public Void visitBinary(BinaryTree tree, Void none) {
        String place = tree + " in line " + line(tree);
        TypeMirror left = type(tree.getLeftOperand());
        boolean isOfTexts = isText(left) || isText(type(tree.getRightOperand()));
        due(tree.getKind() == Tree.Kind.PLUS ? 10 : 6, !isOfTexts, place + " is not of texts");
        boolean isDivision = tree.getKind() == Tree.Kind.DIVIDE || tree.getKind() == Tree.Kind.REMAINDER;
        boolean isFloating = left.getKind() == TypeKind.DOUBLE || left.getKind() == TypeKind.FLOAT;
        due(7, !isDivision || isFloating || isPositive(tree.getRightOperand()), place + " does not divide by 0");
        return super.visitBinary(tree, none);
    }

    @Override
    public Void visitCompoundAssignment(CompoundAssignmentTree tree, Void none) {
        boolean isDivision = tree.getKind() == Tree.Kind.DIVIDE_ASSIGNMENT
                || tree.getKind() == Tree.Kind.REMAINDER_ASSIGNMENT;
        due(7, !isDivision, tree + " in line " + line(tree) + " does not divide");
        due(10, !isText(type(tree.getVariable())), tree + " in line " + line(tree) + " is not of texts");
        return super.visitCompoundAssignment(tree, none);
    }

    private static boolean isText(TypeMirror type) {
        return type.toString().equals("java.lang.String");
    }

    private boolean isPositive(ExpressionTree tree) {
        Element element = element(tree);
        Object value = tree instanceof LiteralTree ? ((LiteralTree) tree).getValue()
                : element instanceof VariableElement ? ((VariableElement) element).getConstantValue() : null;
        return value instanceof Integer && (int) value > 0;
    }

    // ---- rule 9: loops

    @Override
    public Void visitWhileLoop(WhileLoopTree tree, Void none) {
        never(9, tree);
        return null;
    }

    @Override
    public Void visitDoWhileLoop(DoWhileLoopTree tree, Void none) {
        never(9, tree);
        return null;
    }

    @Override
    public Void visitEnhancedForLoop(EnhancedForLoopTree tree, Void none) {
        never(9, tree);
        return null;
    }

    /** Each loop has a counter that is increased by one up to a bound, and by nothing else. */
    @Override
    public Void visitForLoop(ForLoopTree tree, Void none) {
        String place = "the loop in line " + line(tree);
        boolean hasCounter = tree.getInitializer().size() == 1 && tree.getInitializer().get(0) instanceof VariableTree;
        due(9, hasCounter, place + " has a counter");
        if (hasCounter) {
            String counter = ((VariableTree) tree.getInitializer().get(0)).getName().toString();
            due(9, tree.getUpdate().toString().equals(counter + "++;"), place + " counts up by one");
            due(9, firstTest(tree.getCondition()).startsWith(counter + " < "), place + " has a bound");
            due(9, !isSet(tree.getStatement(), counter), place + " leaves its counter alone");
        }
        return super.visitForLoop(tree, none);
    }

    private static String firstTest(ExpressionTree condition) {
        boolean isAnd = condition instanceof BinaryTree && condition.getKind() == Tree.Kind.CONDITIONAL_AND;
        return isAnd ? firstTest(((BinaryTree) condition).getLeftOperand()) : String.valueOf(condition);
    }

    private boolean isSet(Tree body, String counter) {
        Boolean found = new com.sun.source.util.TreeScanner<Boolean, Void>() {
            @Override
            public Boolean visitAssignment(AssignmentTree tree, Void none) {
                return isCounter(tree.getVariable()) || super.visitAssignment(tree, none) == Boolean.TRUE;
            }

            @Override
            public Boolean visitCompoundAssignment(CompoundAssignmentTree tree, Void none) {
                return isCounter(tree.getVariable()) || super.visitCompoundAssignment(tree, none) == Boolean.TRUE;
            }

            @Override
            public Boolean visitUnary(UnaryTree tree, Void none) {
                return tree.getKind().name().contains("CREMENT") && isCounter(tree.getExpression())
                        || super.visitUnary(tree, none) == Boolean.TRUE;
            }

            private boolean isCounter(Tree tree) {
                return tree instanceof IdentifierTree && tree.toString().equals(counter);
            }

            @Override
            public Boolean reduce(Boolean one, Boolean other) {
                return one == Boolean.TRUE || other == Boolean.TRUE;
            }
        }.scan(body, null);
        return found == Boolean.TRUE;
    }
}
