import com.sun.source.tree.ArrayAccessTree;
import com.sun.source.tree.AssertTree;
import com.sun.source.tree.AssignmentTree;
import com.sun.source.tree.BinaryTree;
import com.sun.source.tree.BlockTree;
import com.sun.source.tree.ClassTree;
import com.sun.source.tree.CompilationUnitTree;
import com.sun.source.tree.CompoundAssignmentTree;
import com.sun.source.tree.ConditionalExpressionTree;
import com.sun.source.tree.DoWhileLoopTree;
import com.sun.source.tree.ExpressionTree;
import com.sun.source.tree.ForLoopTree;
import com.sun.source.tree.IdentifierTree;
import com.sun.source.tree.IfTree;
import com.sun.source.tree.ImportTree;
import com.sun.source.tree.LambdaExpressionTree;
import com.sun.source.tree.LiteralTree;
import com.sun.source.tree.MemberReferenceTree;
import com.sun.source.tree.MemberSelectTree;
import com.sun.source.tree.MethodInvocationTree;
import com.sun.source.tree.MethodTree;
import com.sun.source.tree.NewArrayTree;
import com.sun.source.tree.NewClassTree;
import com.sun.source.tree.SynchronizedTree;
import com.sun.source.tree.ThrowTree;
import com.sun.source.tree.Tree;
import com.sun.source.tree.TryTree;
import com.sun.source.tree.TypeCastTree;
import com.sun.source.tree.UnaryTree;
import com.sun.source.tree.VariableTree;
import com.sun.source.tree.WhileLoopTree;
import com.sun.source.util.JavacTask;
import com.sun.source.util.TreePath;
import com.sun.source.util.TreePathScanner;
import com.sun.source.util.Trees;
import java.io.IOException;
import java.io.UncheckedIOException;
import java.net.URI;
import java.util.ArrayList;
import java.util.LinkedHashMap;
import java.util.LinkedHashSet;
import java.util.List;
import java.util.Map;
import java.util.Set;
import java.util.TreeSet;
import javax.lang.model.element.Element;
import javax.lang.model.element.ElementKind;
import javax.lang.model.element.ExecutableElement;
import javax.lang.model.element.Modifier;
import javax.lang.model.element.TypeElement;
import javax.lang.model.type.ArrayType;
import javax.lang.model.type.TypeKind;
import javax.lang.model.type.TypeMirror;
import javax.tools.JavaFileObject;
import javax.tools.SimpleJavaFileObject;
import javax.tools.ToolProvider;

/** What of LANGUAGE.md the compiler's own tree of a source shows to be broken, each finding led by its rule. */
final class LanguageRules extends TreePathScanner<Void, Void> {
    private static final int MOST_CLASSES = 12, MOST_FIELDS = 20, MOST_LINES = 60, MOST_PARAMETERS = 7, MOST_DEEP = 8;
    private static final Set<String> CALLS = Set.of("String.length", "String.charAt", "String.isEmpty",
        "String.equals", "String.substring", "String.toCharArray", "StringBuilder.append", "StringBuilder.charAt",
        "StringBuilder.setCharAt", "StringBuilder.setLength", "StringBuilder.deleteCharAt", "StringBuilder.reverse",
        "StringBuilder.length", "StringBuilder.toString", "Integer.bitCount", "Integer.compare", "Long.compare",
        "Math.max", "Math.min", "Math.abs", "Math.floorDiv", "Math.floorMod", "System.arraycopy", "Arrays.copyOf",
        "Arrays.copyOfRange", "Arrays.fill");
    private static final Set<String> FIXED_ARRAYS = Set.of("int[]", "long[]", "char[]", "byte[]");
    private static final Set<String> FIXED = Set.of("int", "long", "boolean", "char", "java.lang.String");

    private final Set<String> found = new LinkedHashSet<>();
    private final Trees trees;
    private final CompilationUnitTree unit;
    private final Set<TypeElement> classes = new LinkedHashSet<>();
    private final Set<ExecutableElement> methods = new LinkedHashSet<>();
    private final Map<ExecutableElement, Set<ExecutableElement>> calls = new LinkedHashMap<>();
    private final JavacTask task;
    private ExecutableElement method;

    private LanguageRules(JavacTask task, CompilationUnitTree unit) {
        this.task = task;
        this.trees = Trees.instance(task);
        this.unit = unit;
    }

    static Set<String> broken(String source) {
        JavaFileObject file = new SimpleJavaFileObject(URI.create("string:///ThrownOver.java"),
                JavaFileObject.Kind.SOURCE) {
            @Override
            public CharSequence getCharContent(boolean ignoreEncodingErrors) {
                return source;
            }
        };
        JavacTask task = (JavacTask) ToolProvider.getSystemJavaCompiler()
            .getTask(null, null, null, List.of("-proc:none"), null, List.of(file));
        try {
            CompilationUnitTree unit = task.parse().iterator().next();
            task.analyze();
            LanguageRules rules = new LanguageRules(task, unit);
            rules.scan(unit, null);
            rules.face();
            rules.depths();
            return rules.found;
        } catch (IOException e) {
            throw new UncheckedIOException(e);
        }
    }

    private void say(int rule, String what) {
        found.add("rule " + rule + ": " + what);
    }

    private String told(Tree tree) {
        String words = tree.toString().replaceAll("\\s+", " ");
        return words.substring(0, Math.min(60, words.length()));
    }

    private TypeMirror typeOf(Tree tree) {
        return trees.getTypeMirror(new TreePath(getCurrentPath(), tree));
    }

    private boolean isOwn(Element element) {
        TreePath path = element == null ? null : trees.getPath(element);
        return path != null && path.getCompilationUnit() == unit;
    }

    // ---- rules 1 and 2: the face and the classes inside

    @Override
    public Void visitCompilationUnit(CompilationUnitTree tree, Void v) {
        if (tree.getPackage() != null || tree.getTypeDecls().size() != 1) {
            say(1, "a package, or not one class");
        }
        return super.visitCompilationUnit(tree, v);
    }

    @Override
    public Void visitImport(ImportTree tree, Void v) {
        say(4, told(tree));
        return null;
    }

    @Override
    public Void visitClass(ClassTree tree, Void v) {
        TypeElement type = (TypeElement) trees.getElement(getCurrentPath());
        classes.add(type);
        Set<Modifier> modifiers = type.getModifiers();
        Tree.Kind around = getCurrentPath().getParentPath().getLeaf().getKind();
        if (around == Tree.Kind.COMPILATION_UNIT) {
            if (!modifiers.contains(Modifier.PUBLIC) || !modifiers.contains(Modifier.FINAL)) {
                say(1, "not public and final");
            }
        } else if (around != Tree.Kind.CLASS || !modifiers.contains(Modifier.STATIC)
                || modifiers.contains(Modifier.PUBLIC) || modifiers.contains(Modifier.PROTECTED)) {
            say(2, "class " + tree.getSimpleName());
        }
        int fields = 0;
        for (Element member : type.getEnclosedElements()) {
            if (member.getKind() == ElementKind.FIELD && !member.getModifiers().contains(Modifier.STATIC)) {
                fields++;
            }
        }
        if (fields > MOST_FIELDS || classes.size() > MOST_CLASSES) {
            say(11, fields + " fields in class " + tree.getSimpleName() + ", the " + classes.size() + "th");
        }
        ExecutableElement outer = method;
        method = null;
        super.visitClass(tree, v);
        method = outer;
        return null;
    }

    /** Members of the outer class are public or private, and no private one bears a public one's name. */
    private void face() {
        Set<String> open = new TreeSet<>();
        for (ExecutableElement each : methods) {
            if (each.getModifiers().contains(Modifier.PUBLIC)) {
                open.add(each.getSimpleName().toString());
            }
        }
        for (TypeElement type : classes) {
            boolean outermost = type.getEnclosingElement().getKind() == ElementKind.PACKAGE;
            for (Element member : type.getEnclosedElements()) {
                boolean hidden = member.getModifiers().contains(Modifier.PRIVATE);
                boolean shown = member.getModifiers().contains(Modifier.PUBLIC);
                if (outermost && !hidden && !shown && !(member instanceof TypeElement)) {
                    say(1, member + " is seen");
                }
                if (member.getKind() == ElementKind.METHOD && !(outermost && shown)
                        && open.contains(member.getSimpleName().toString())) {
                    say(1, member + " bears the name of a public one");
                }
            }
        }
    }

    @Override
    public Void visitLambdaExpression(LambdaExpressionTree tree, Void v) {
        say(2, told(tree));
        return super.visitLambdaExpression(tree, v);
    }

    @Override
    public Void visitMemberReference(MemberReferenceTree tree, Void v) {
        say(2, told(tree));
        return super.visitMemberReference(tree, v);
    }

    // ---- rules 3, 4 and 5: types, the library, what is static

    @Override
    public Void visitVariable(VariableTree tree, Void v) {
        Element element = trees.getElement(getCurrentPath());
        if (!isAllowed(element.asType())) {
            say(3, told(tree));
        }
        if (element.getKind() == ElementKind.FIELD && element.getModifiers().contains(Modifier.STATIC)) {
            boolean row = FIXED_ARRAYS.contains(element.asType().toString())
                && tree.getInitializer() instanceof NewArrayTree made && made.getInitializers() != null;
            if (!element.getModifiers().contains(Modifier.FINAL)
                    || !row && !FIXED.contains(element.asType().toString())) {
                say(5, told(tree));
            }
        }
        return super.visitVariable(tree, v);
    }

    private boolean isAllowed(TypeMirror type) {
        if (type instanceof ArrayType array) {
            TypeMirror part = array.getComponentType();
            return part instanceof ArrayType inner ? inner.getComponentType().getKind().isPrimitive() : isPlain(part);
        }
        return isPlain(type) || type.toString().equals("java.lang.StringBuilder");
    }

    private boolean isPlain(TypeMirror type) {
        if (type.getKind().isPrimitive() || type.toString().equals("java.lang.String")) {
            return true;
        }
        return type.getKind() == TypeKind.DECLARED && isOwn(task.getTypes().asElement(type));
    }

    @Override
    public Void visitMethodInvocation(MethodInvocationTree tree, Void v) {
        ExecutableElement called = (ExecutableElement) trees.getElement(getCurrentPath());
        if (called.getKind() == ElementKind.METHOD) {
            if (method != null && method.getKind() == ElementKind.CONSTRUCTOR) {
                say(12, "a constructor calls " + called);
            }
            String name = called.getEnclosingElement().getSimpleName() + "." + called.getSimpleName();
            if (isOwn(called)) {
                enter(called, isSuper(tree));
            } else if (!CALLS.contains(name)) {
                say(4, name);
            }
        }
        return super.visitMethodInvocation(tree, v);
    }

    private static boolean isSuper(MethodInvocationTree tree) {
        return tree.getMethodSelect() instanceof MemberSelectTree select
            && select.getExpression().toString().equals("super");
    }

    /** Calls go to the method itself and, but for those of super, to all that override it. */
    private void enter(ExecutableElement called, boolean exactly) {
        if (method == null) {
            return;
        }
        Set<ExecutableElement> goesTo = calls.computeIfAbsent(method, m -> new LinkedHashSet<>());
        goesTo.add(called);
        for (TypeElement type : classes()) {
            for (Element member : type.getEnclosedElements()) {
                if (!exactly && member instanceof ExecutableElement other
                        && task.getElements().overrides(other, called, type)) {
                    goesTo.add(other);
                }
            }
        }
    }

    private List<TypeElement> classes() {
        List<TypeElement> all = new ArrayList<>();
        TypeElement outermost = classes.iterator().next();
        all.add(outermost);
        for (Element member : outermost.getEnclosedElements()) {
            if (member instanceof TypeElement type) {
                all.add(type);
            }
        }
        return all;
    }

    @Override
    public Void visitNewClass(NewClassTree tree, Void v) {
        ExecutableElement made = (ExecutableElement) trees.getElement(getCurrentPath());
        if (isOwn(made.getEnclosingElement())) {
            enter(made, true);
        } else {
            say(4, told(tree));
        }
        madeWhere(tree);
        return super.visitNewClass(tree, v);
    }

    @Override
    public Void visitNewArray(NewArrayTree tree, Void v) {
        madeWhere(tree);
        return super.visitNewArray(tree, v);
    }

    /** Stricter than the rule: this class makes all it needs in constructors, and nothing behind them. */
    private void madeWhere(Tree tree) {
        if (method != null && method.getKind() != ElementKind.CONSTRUCTOR) {
            say(12, told(tree));
        }
    }

    @Override
    public Void visitBlock(BlockTree tree, Void v) {
        if (getCurrentPath().getParentPath().getLeaf() instanceof ClassTree && tree.isStatic()) {
            say(5, "a static initialiser");
        }
        return super.visitBlock(tree, v);
    }

    @Override
    public Void visitAssignment(AssignmentTree tree, Void v) {
        written(tree.getVariable());
        return super.visitAssignment(tree, v);
    }

    @Override
    public Void visitUnary(UnaryTree tree, Void v) {
        if (tree.getKind().name().contains("CREMENT")) {
            written(tree.getExpression());
        }
        return super.visitUnary(tree, v);
    }

    /** An element of a static row, or of a row that was handed over (it may be a static one), is never written. */
    private void written(ExpressionTree target) {
        if (target instanceof ArrayAccessTree access) {
            Element row = trees.getElement(new TreePath(getCurrentPath(), access.getExpression()));
            if (row == null || row.getModifiers().contains(Modifier.STATIC) || row.getKind() == ElementKind.PARAMETER) {
                say(5, told(target));
            }
        }
    }

    // ---- rules 6, 7, 9 and 10: what is never written

    @Override
    public Void visitThrow(ThrowTree tree, Void v) {
        say(6, told(tree));
        return super.visitThrow(tree, v);
    }

    @Override
    public Void visitTry(TryTree tree, Void v) {
        say(6, told(tree));
        return super.visitTry(tree, v);
    }

    @Override
    public Void visitSynchronized(SynchronizedTree tree, Void v) {
        say(6, told(tree));
        return super.visitSynchronized(tree, v);
    }

    @Override
    public Void visitAssert(AssertTree tree, Void v) {
        say(6, told(tree));
        return super.visitAssert(tree, v);
    }

    @Override
    public Void visitTypeCast(TypeCastTree tree, Void v) {
        if (!typeOf(tree.getType()).getKind().isPrimitive()) {
            say(6, told(tree));
        }
        return super.visitTypeCast(tree, v);
    }

    @Override
    public Void visitBinary(BinaryTree tree, Void v) {
        boolean texts = isObjectOfLibrary(tree.getLeftOperand()) || isObjectOfLibrary(tree.getRightOperand());
        switch (tree.getKind()) {
            case PLUS:
                if (texts) {
                    say(10, told(tree));
                }
                break;
            case EQUAL_TO:
            case NOT_EQUAL_TO:
                if (texts) {
                    say(6, told(tree));
                }
                break;
            case DIVIDE:
            case REMAINDER:
                divided(tree, tree.getRightOperand());
                break;
            default:
                break;
        }
        return super.visitBinary(tree, v);
    }

    private boolean isObjectOfLibrary(ExpressionTree tree) {
        String type = String.valueOf(typeOf(tree));
        return type.equals("java.lang.String") || type.equals("java.lang.Integer");
    }

    @Override
    public Void visitCompoundAssignment(CompoundAssignmentTree tree, Void v) {
        written(tree.getVariable());
        if (tree.getKind() == Tree.Kind.DIVIDE_ASSIGNMENT || tree.getKind() == Tree.Kind.REMAINDER_ASSIGNMENT) {
            divided(tree, tree.getExpression());
        }
        return super.visitCompoundAssignment(tree, v);
    }

    /** A divisor is a number that is not 0, or a condition around the division looks at it. */
    private void divided(Tree division, ExpressionTree divisor) {
        if (divisor instanceof LiteralTree number && ((Number) number.getValue()).longValue() != 0) {
            return;
        }
        for (Tree around : getCurrentPath()) {
            ExpressionTree condition = around instanceof IfTree tree ? tree.getCondition()
                : around instanceof ForLoopTree loop ? loop.getCondition()
                : around instanceof WhileLoopTree loop ? loop.getCondition()
                : around instanceof ConditionalExpressionTree choice ? choice.getCondition() : null;
            if (condition != null && divisor instanceof IdentifierTree
                    && condition.toString().matches(".*\\b" + divisor + "\\b.*")) {
                return;
            }
        }
        say(7, told(division));
    }

    @Override
    public Void visitForLoop(ForLoopTree tree, Void v) {
        bounded(tree, tree.getCondition());
        return super.visitForLoop(tree, v);
    }

    @Override
    public Void visitWhileLoop(WhileLoopTree tree, Void v) {
        bounded(tree, tree.getCondition());
        return super.visitWhileLoop(tree, v);
    }

    @Override
    public Void visitDoWhileLoop(DoWhileLoopTree tree, Void v) {
        bounded(tree, tree.getCondition());
        return super.visitDoWhileLoop(tree, v);
    }

    /** A counter is compared with its bound in the loop's own condition, and no "or" goes past it. */
    private void bounded(Tree loop, ExpressionTree condition) {
        String words = condition == null ? "" : condition.toString();
        if (!words.matches("\\(?\\w+ (<|<=|>|>=) [^|]*( && .*)?")) {
            say(9, told(loop));
        }
    }

    // ---- rules 8 and 11: how long, how wide, how deep

    @Override
    public Void visitMethod(MethodTree tree, Void v) {
        ExecutableElement outer = method;
        method = (ExecutableElement) trees.getElement(getCurrentPath());
        methods.add(method);
        long from = trees.getSourcePositions().getStartPosition(unit, tree);
        long to = trees.getSourcePositions().getEndPosition(unit, tree);
        if (to >= 0) {
            long lines = unit.getLineMap().getLineNumber(to) - unit.getLineMap().getLineNumber(from) + 1;
            if (lines > MOST_LINES) {
                say(11, method + " has " + lines + " lines");
            }
        }
        if (tree.getParameters().size() > MOST_PARAMETERS) {
            say(11, method + " has " + tree.getParameters().size() + " parameters");
        }
        String name = tree.getName().toString();
        if (Set.of("equals", "hashCode", "toString", "finalize").contains(name)) {
            say(6, name);
        }
        TypeMirror answer = method.getReturnType();
        if (answer.getKind() != TypeKind.VOID && !isAllowed(answer)) {
            say(3, told(tree));
        }
        super.visitMethod(tree, v);
        method = outer;
        return null;
    }

    private void depths() {
        for (ExecutableElement each : methods) {
            int deep = deepest(each, new ArrayList<>());
            if (deep > MOST_DEEP) {
                say(11, each + " goes " + deep + " deep");
            }
        }
    }

    /** Stricter than the rule: this class has no recursion, so none is let through. */
    private int deepest(ExecutableElement from, List<ExecutableElement> open) {
        if (open.contains(from)) {
            say(8, from + " calls itself");
            return 0;
        }
        open.add(from);
        int below = 0;
        for (ExecutableElement next : calls.getOrDefault(from, Set.of())) {
            below = Math.max(below, deepest(next, open));
        }
        open.remove(open.size() - 1);
        return below + 1;
    }
}
