import com.sun.source.tree.AssertTree;
import com.sun.source.tree.AssignmentTree;
import com.sun.source.tree.BinaryTree;
import com.sun.source.tree.BlockTree;
import com.sun.source.tree.ClassTree;
import com.sun.source.tree.CompilationUnitTree;
import com.sun.source.tree.CompoundAssignmentTree;
import com.sun.source.tree.DoWhileLoopTree;
import com.sun.source.tree.EnhancedForLoopTree;
import com.sun.source.tree.ExpressionTree;
import com.sun.source.tree.ForLoopTree;
import com.sun.source.tree.IdentifierTree;
import com.sun.source.tree.ImportTree;
import com.sun.source.tree.InstanceOfTree;
import com.sun.source.tree.LambdaExpressionTree;
import com.sun.source.tree.LiteralTree;
import com.sun.source.tree.MemberReferenceTree;
import com.sun.source.tree.MethodInvocationTree;
import com.sun.source.tree.MethodTree;
import com.sun.source.tree.NewArrayTree;
import com.sun.source.tree.NewClassTree;
import com.sun.source.tree.SynchronizedTree;
import com.sun.source.tree.ThrowTree;
import com.sun.source.tree.Tree;
import com.sun.source.tree.TryTree;
import com.sun.source.tree.TypeCastTree;
import com.sun.source.tree.UnaryTree;
import com.sun.source.tree.VariableTree;
import com.sun.source.tree.WhileLoopTree;
import com.sun.source.util.JavacTask;
import com.sun.source.util.TreePath;
import com.sun.source.util.TreePathScanner;
import com.sun.source.util.Trees;
import java.io.IOException;
import java.net.URI;
import java.util.ArrayList;
import java.util.LinkedHashSet;
import java.util.List;
import java.util.Map;
import java.util.Set;
import java.util.TreeMap;
import java.util.TreeSet;
import javax.lang.model.element.Element;
import javax.lang.model.element.ElementKind;
import javax.lang.model.element.ExecutableElement;
import javax.lang.model.element.Modifier;
import javax.lang.model.element.VariableElement;
import javax.lang.model.type.TypeKind;
import javax.lang.model.type.TypeMirror;
import javax.tools.DiagnosticCollector;
import javax.tools.JavaCompiler;
import javax.tools.JavaFileObject;
import javax.tools.SimpleJavaFileObject;
import javax.tools.ToolProvider;

/**
 * What of LANGUAGE.md's rules the compiler's own reading of a source tells. It is narrower than the rules where the
 * class has no need of what they allow (no try, no while, no texts, no library but LIBRARY, nothing made behind the
 * constructor): whoever needs more of them widens it.
 */
final class LanguageRules extends TreePathScanner<Void, Void> {
    private static final Set<String> LIBRARY = Set.of("java.lang.Math.abs", "java.lang.Math.max", "java.lang.Math.min",
        "java.lang.System.arraycopy", "java.lang.Object.<init>");
    private static final Set<String> THROWN = Set.of("IllegalStateException", "IllegalArgumentException", "IndexOutOfBoundsException");
    private static final Set<String> TYPES = Set.of("int", "long", "char", "boolean", "void");
    private static final int MAX_PARAMETERS = 7;
    private static final int MAX_LINES = 60;
    private static final int MAX_CLASSES = 12;
    private static final int MAX_FIELDS = 20;
    private static final int MAX_DEPTH = 8;

    private final String main;
    private final Trees trees;
    private final CompilationUnitTree unit;
    private final Set<String> reports = new LinkedHashSet<>();
    private final Map<String, Set<String>> calls = new TreeMap<>();
    private final Set<String> face = new TreeSet<>();
    private final Set<String> notOfTheFace = new TreeSet<>();
    private int classes;

    private LanguageRules(String main, Trees trees, CompilationUnitTree unit) {
        this.main = main;
        this.trees = trees;
        this.unit = unit;
    }

    /** A line for each place of the source that is outside the rules. */
    static List<String> reportsOf(String name, String source) throws IOException {
        JavaCompiler compiler = ToolProvider.getSystemJavaCompiler();
        DiagnosticCollector<JavaFileObject> words = new DiagnosticCollector<>();
        JavaFileObject file = new SimpleJavaFileObject(URI.create("string:///" + name + ".java"), JavaFileObject.Kind.SOURCE) {
            @Override
            public CharSequence getCharContent(boolean ignoreEncodingErrors) {
                return source;
            }
        };
        JavacTask task = (JavacTask) compiler.getTask(null, null, words, List.of("-proc:none"), null, List.of(file));
        CompilationUnitTree unit = task.parse().iterator().next();
        task.analyze();
        LanguageRules rules = new LanguageRules(name, Trees.instance(task), unit);
        rules.scan(unit, null);
        rules.checkNames();
        rules.checkCalls();
        return new ArrayList<>(rules.reports);
    }

    private void report(int rule, String what, Tree tree) {
        long at = trees.getSourcePositions().getStartPosition(unit, tree);
        reports.add("rule " + rule + ": " + what + " in line " + unit.getLineMap().getLineNumber(Math.max(at, 0)));
    }

    private Element element() {
        return trees.getElement(getCurrentPath());
    }

    private TypeMirror type(Tree tree) {
        return trees.getTypeMirror(new TreePath(getCurrentPath(), tree));
    }

    /** The method that the place stands in, or null. */
    private MethodTree method() {
        for (TreePath p = getCurrentPath(); p != null; p = p.getParentPath()) {
            if (p.getLeaf() instanceof MethodTree) {
                return (MethodTree) p.getLeaf();
            }
        }
        return null;
    }

    private boolean inConstructor() {
        return method() != null && method().getReturnType() == null;
    }

    private static String nameOf(Element e) {
        return e.getEnclosingElement() + "." + e.getSimpleName();
    }

    private boolean isOwn(String typeName) {
        return typeName.equals(main) || typeName.startsWith(main + ".");
    }

    private boolean isAllowed(TypeMirror type) {
        if (type.getKind() == TypeKind.ARRAY) {
            String part = type.toString().replace("[]", "");
            return type.toString().equals(part + "[]") && !part.equals("java.lang.String") && (TYPES.contains(part) || isOwn(part));
        }
        return TYPES.contains(type.toString()) || isOwn(type.toString());
    }

    // ---- the file, classes and members

    @Override
    public Void visitCompilationUnit(CompilationUnitTree tree, Void none) {
        if (tree.getPackageName() != null) {
            report(1, "a package", tree);
        }
        if (tree.getTypeDecls().size() != 1) {
            report(1, "more than one class of the file", tree.getTypeDecls().get(1));
        }
        return super.visitCompilationUnit(tree, none);
    }

    @Override
    public Void visitImport(ImportTree tree, Void none) {
        report(4, "an import", tree);
        return super.visitImport(tree, none);
    }

    @Override
    public Void visitClass(ClassTree tree, Void none) {
        Set<Modifier> flags = tree.getModifiers().getFlags();
        boolean isMain = tree.getSimpleName().contentEquals(main);
        Tree around = getCurrentPath().getParentPath().getLeaf();
        classes++;
        if (classes > MAX_CLASSES) {
            report(11, "too many classes", tree);
        }
        if (isMain && !flags.equals(Set.of(Modifier.PUBLIC, Modifier.FINAL))) {
            report(1, "the class is not public and final", tree);
        }
        if (!isMain && (flags.contains(Modifier.PUBLIC) || flags.contains(Modifier.PROTECTED))) {
            report(1, "a class inside that others see", tree);
        }
        if (!isMain && (!flags.contains(Modifier.STATIC) || !(around instanceof ClassTree))) {
            report(2, "a class inside that is not static", tree);
        }
        int fields = 0;
        for (Tree member : tree.getMembers()) {
            boolean isField = member instanceof VariableTree;
            fields += isField && !((VariableTree) member).getModifiers().getFlags().contains(Modifier.STATIC) ? 1 : 0;
            if (member instanceof BlockTree) {
                report(5, "an initialiser block", member);
            }
            if (isMain && isField) {
                checkVisible(((VariableTree) member).getModifiers().getFlags(), member);
            }
            if (isMain && member instanceof MethodTree) {
                checkVisible(((MethodTree) member).getModifiers().getFlags(), member);
            }
        }
        if (fields > MAX_FIELDS) {
            report(11, "too many fields", tree);
        }
        return super.visitClass(tree, none);
    }

    private void checkVisible(Set<Modifier> flags, Tree member) {
        if (!flags.contains(Modifier.PUBLIC) && !flags.contains(Modifier.PRIVATE)) {
            report(1, "a member that is neither public nor private", member);
        }
    }

    @Override
    public Void visitMethod(MethodTree tree, Void none) {
        String name = nameOf(element());
        calls.putIfAbsent(name, new TreeSet<>());
        boolean isFace = tree.getModifiers().getFlags().contains(Modifier.PUBLIC);
        (isFace ? face : notOfTheFace).add(name);
        if (tree.getParameters().size() > MAX_PARAMETERS) {
            report(11, "too many parameters", tree);
        }
        long from = trees.getSourcePositions().getStartPosition(unit, tree);
        long to = trees.getSourcePositions().getEndPosition(unit, tree);
        if (to >= 0 && unit.getLineMap().getLineNumber(to) - unit.getLineMap().getLineNumber(from) >= MAX_LINES) {
            report(11, "a long method", tree);
        }
        if (tree.getReturnType() != null && !isAllowed(type(tree.getReturnType()))) {
            report(3, "an answer of another type", tree);
        }
        if (name.matches(".*\\.(equals|hashCode|toString)")) {
            report(6, "a method that objects have", tree);
        }
        return super.visitMethod(tree, none);
    }

    @Override
    public Void visitVariable(VariableTree tree, Void none) {
        VariableElement e = (VariableElement) element();
        if (e.asType().toString().startsWith("java.lang.Thread")) {
            report(13, "a thread", tree);
        }
        if (!e.getModifiers().contains(Modifier.STATIC) && !isAllowed(e.asType())) {
            report(3, "a variable of another type", tree);
        }
        if (e.getModifiers().contains(Modifier.STATIC) && e.getConstantValue() == null) {
            report(5, "a static field that is no constant", tree);
        }
        return super.visitVariable(tree, none);
    }

    private void checkNames() {
        Set<String> names = new TreeSet<>();
        for (String one : face) {
            names.add(one.substring(one.lastIndexOf('.') + 1));
        }
        names.remove("<init>");
        for (String one : notOfTheFace) {
            if (names.contains(one.substring(one.lastIndexOf('.') + 1))) {
                reports.add("rule 1: " + one + " bears a name of the face");
            }
        }
        for (String one : face) {
            if (one.matches(".*\\.\\w+\\.\\w+") && !one.startsWith(main + ".")) {
                reports.add("rule 1: " + one + " is public");
            }
        }
    }

    // ---- what is not allowed at all, or not used

    @Override
    public Void visitLambdaExpression(LambdaExpressionTree tree, Void none) {
        report(2, "a lambda", tree);
        return super.visitLambdaExpression(tree, none);
    }

    @Override
    public Void visitMemberReference(MemberReferenceTree tree, Void none) {
        report(2, "a method reference", tree);
        return super.visitMemberReference(tree, none);
    }

    @Override
    public Void visitTry(TryTree tree, Void none) {
        report(6, "a try", tree);
        return super.visitTry(tree, none);
    }

    @Override
    public Void visitSynchronized(SynchronizedTree tree, Void none) {
        report(6, "a synchronized", tree);
        return super.visitSynchronized(tree, none);
    }

    @Override
    public Void visitAssert(AssertTree tree, Void none) {
        report(6, "an assert", tree);
        return super.visitAssert(tree, none);
    }

    @Override
    public Void visitInstanceOf(InstanceOfTree tree, Void none) {
        report(6, "an instanceof", tree);
        return super.visitInstanceOf(tree, none);
    }

    @Override
    public Void visitTypeCast(TypeCastTree tree, Void none) {
        if (!type(tree.getType()).getKind().isPrimitive()) {
            report(6, "a cast between classes", tree);
        }
        return super.visitTypeCast(tree, none);
    }

    @Override
    public Void visitLiteral(LiteralTree tree, Void none) {
        if (tree.getValue() instanceof String && !((String) tree.getValue()).matches("[\\x01-\\x7f]*")) {
            report(3, "a sign above 127", tree);
        }
        return super.visitLiteral(tree, none);
    }

    // ---- exceptions, divisors, loops

    @Override
    public Void visitThrow(ThrowTree tree, Void none) {
        if (inConstructor()) {
            report(6, "a throw in a constructor", tree);
        }
        if (!tree.getExpression().toString().matches("new (" + String.join("|", THROWN) + ")\\(\"[^\"]*\"\\)")) {
            report(6, "another throw than of a written text", tree);
        }
        return super.visitThrow(tree, none);
    }

    @Override
    public Void visitBinary(BinaryTree tree, Void none) {
        if (tree.getKind() == Tree.Kind.PLUS && trees.getTypeMirror(getCurrentPath()).toString().equals("java.lang.String")) {
            report(10, "texts joined by +", tree);
        }
        if (tree.getKind() == Tree.Kind.DIVIDE || tree.getKind() == Tree.Kind.REMAINDER) {
            checkDivisor(tree.getRightOperand(), tree);
        }
        return super.visitBinary(tree, none);
    }

    @Override
    public Void visitCompoundAssignment(CompoundAssignmentTree tree, Void none) {
        if (tree.getKind() == Tree.Kind.DIVIDE_ASSIGNMENT || tree.getKind() == Tree.Kind.REMAINDER_ASSIGNMENT) {
            checkDivisor(tree.getExpression(), tree);
        }
        return super.visitCompoundAssignment(tree, none);
    }

    /** A divisor is a constant, or a variable that is compared with 0 or 1 or begins with 1 in the same method. */
    private void checkDivisor(ExpressionTree divisor, Tree tree) {
        String name = divisor.toString();
        if (divisor instanceof LiteralTree ? name.equals("0") : !isConstant(divisor) && !isLookedAt(name)) {
            report(7, "a divisor that nobody has looked at", tree);
        }
    }

    private boolean isConstant(ExpressionTree tree) {
        Element e = trees.getElement(new TreePath(getCurrentPath(), tree));
        return e instanceof VariableElement && ((VariableElement) e).getConstantValue() != null
            && !((VariableElement) e).getConstantValue().toString().equals("0");
    }

    private boolean isLookedAt(String name) {
        String code = method() == null ? "" : method().toString().replaceAll("\\s+", " ");
        return name.matches("\\w+") && code.matches(".*\\b" + name + " > [01]\\b.*");
    }

    @Override
    public Void visitWhileLoop(WhileLoopTree tree, Void none) {
        report(9, "a while", tree);
        return super.visitWhileLoop(tree, none);
    }

    @Override
    public Void visitDoWhileLoop(DoWhileLoopTree tree, Void none) {
        report(9, "a do", tree);
        return super.visitDoWhileLoop(tree, none);
    }

    @Override
    public Void visitEnhancedForLoop(EnhancedForLoopTree tree, Void none) {
        report(9, "a for over an array", tree);
        return super.visitEnhancedForLoop(tree, none);
    }

    /** for (int i = ..; i < .. (or >, <=, >=); i++ or i--), and nothing else changes i. */
    @Override
    public Void visitForLoop(ForLoopTree tree, Void none) {
        boolean hasCounter = tree.getInitializer().size() == 1 && tree.getInitializer().get(0) instanceof VariableTree;
        String name = hasCounter ? ((VariableTree) tree.getInitializer().get(0)).getName().toString() : "none";
        String bound = tree.getCondition() == null ? "" : tree.getCondition().toString();
        String step = tree.getUpdate().toString().replace(";", "");
        boolean goesUp = bound.matches(name + " <=? [^|]*") && step.equals(name + "++");
        boolean goesDown = bound.matches(name + " >=? [^|]*") && step.equals(name + "--");
        boolean isCounted = goesUp || goesDown || (bound.matches(name + " \\+ \\w+ < [^|]*") && step.equals(name + "++"));
        if (!isCounted || changes(tree.getStatement(), name)) {
            report(9, "a loop without a counter against a bound", tree);
        }
        return super.visitForLoop(tree, none);
    }

    private static boolean changes(Tree tree, String name) {
        boolean[] found = new boolean[1];
        new com.sun.source.util.TreeScanner<Void, Void>() {
            @Override
            public Void visitAssignment(AssignmentTree one, Void none) {
                found[0] |= one.getVariable().toString().equals(name);
                return super.visitAssignment(one, none);
            }

            @Override
            public Void visitCompoundAssignment(CompoundAssignmentTree one, Void none) {
                found[0] |= one.getVariable().toString().equals(name);
                return super.visitCompoundAssignment(one, none);
            }

            @Override
            public Void visitUnary(UnaryTree one, Void none) {
                boolean isStep = one.getKind().name().endsWith("CREMENT");
                found[0] |= isStep && one.getExpression() instanceof IdentifierTree && one.getExpression().toString().equals(name);
                return super.visitUnary(one, none);
            }
        }.scan(tree, null);
        return found[0];
    }

    // ---- what is called, and what is made

    @Override
    public Void visitMethodInvocation(MethodInvocationTree tree, Void none) {
        Element e = trees.getElement(new TreePath(getCurrentPath(), tree.getMethodSelect()));
        String name = e instanceof ExecutableElement ? nameOf(e) : tree.getMethodSelect().toString();
        if (name.endsWith(".clone")) {
            report(12, "a copy of a row is made", tree);
        } else if (e == null || !isOwn(e.getEnclosingElement().toString())) {
            if (!LIBRARY.contains(name)) {
                report(4, name + " of the library", tree);
            }
        } else if (method() != null) {
            calls.get(nameOf(trees.getElement(trees.getPath(unit, method())))).add(name);
        }
        return super.visitMethodInvocation(tree, none);
    }

    @Override
    public Void visitNewClass(NewClassTree tree, Void none) {
        boolean isThrown = getCurrentPath().getParentPath().getLeaf() instanceof ThrowTree;
        Element e = element();
        if (!isThrown && !inConstructor()) {
            report(12, "an object is made behind the constructor", tree);
        }
        if (!isThrown && (e == null || e.getKind() != ElementKind.CONSTRUCTOR || !isOwn(e.getEnclosingElement().toString()))) {
            report(4, "an object of the library", tree);
        }
        return super.visitNewClass(tree, none);
    }

    @Override
    public Void visitNewArray(NewArrayTree tree, Void none) {
        if (!inConstructor()) {
            report(12, "a row is made behind the constructor", tree);
        }
        return super.visitNewArray(tree, none);
    }

    private void checkCalls() {
        for (String one : calls.keySet()) {
            int depth = depth(one, new ArrayList<>());
            if (depth > MAX_DEPTH) {
                reports.add("rule 11: the calls of " + one + " go " + depth + " deep");
            }
        }
    }

    private int depth(String name, List<String> open) {
        if (open.contains(name)) {
            reports.add("rule 8: " + name + " comes to call itself");
            return 0;
        }
        open.add(name);
        int deepest = 0;
        for (String one : calls.getOrDefault(name, Set.of())) {
            deepest = Math.max(deepest, depth(one, open));
        }
        open.remove(open.size() - 1);
        return deepest + 1;
    }
}
