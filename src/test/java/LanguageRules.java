import com.sun.source.tree.AssertTree;
import com.sun.source.tree.BinaryTree;
import com.sun.source.tree.BlockTree;
import com.sun.source.tree.ClassTree;
import com.sun.source.tree.CompilationUnitTree;
import com.sun.source.tree.CompoundAssignmentTree;
import com.sun.source.tree.EnhancedForLoopTree;
import com.sun.source.tree.ExpressionTree;
import com.sun.source.tree.IfTree;
import com.sun.source.tree.ImportTree;
import com.sun.source.tree.LambdaExpressionTree;
import com.sun.source.tree.MemberReferenceTree;
import com.sun.source.tree.MethodInvocationTree;
import com.sun.source.tree.MethodTree;
import com.sun.source.tree.NewArrayTree;
import com.sun.source.tree.NewClassTree;
import com.sun.source.tree.StatementTree;
import com.sun.source.tree.SynchronizedTree;
import com.sun.source.tree.ThrowTree;
import com.sun.source.tree.Tree;
import com.sun.source.tree.TryTree;
import com.sun.source.tree.TypeCastTree;
import com.sun.source.tree.VariableTree;
import com.sun.source.util.JavacTask;
import com.sun.source.util.SourcePositions;
import com.sun.source.util.TreePath;
import com.sun.source.util.TreePathScanner;
import com.sun.source.util.Trees;
import java.io.IOException;
import java.net.URI;
import java.util.ArrayList;
import java.util.LinkedHashMap;
import java.util.LinkedHashSet;
import java.util.List;
import java.util.Map;
import java.util.Set;
import java.util.regex.Matcher;
import java.util.regex.Pattern;
import javax.lang.model.element.Element;
import javax.lang.model.element.ExecutableElement;
import javax.lang.model.element.Modifier;
import javax.lang.model.element.TypeElement;
import javax.lang.model.element.VariableElement;
import javax.lang.model.type.ArrayType;
import javax.lang.model.type.DeclaredType;
import javax.lang.model.type.TypeKind;
import javax.lang.model.type.TypeMirror;
import javax.tools.JavaFileObject;
import javax.tools.SimpleJavaFileObject;
import javax.tools.ToolProvider;

/**
 * Finds in a source's tree what ../shared/LANGUAGE.md rules out. Where a rule leaves more than the class needs
 * (doubles, lists, texts, recursion), this asks for the less: what the class never uses needs no finer test.
 */
final class LanguageRules extends TreePathScanner<Void, Void> {
    private static final Set<String> LIBRARY = Set.of("java.lang.Integer.bitCount", "java.lang.Math.max",
        "java.lang.Math.min", "java.lang.System.arraycopy", "java.util.Arrays.fill");
    private static final Set<String> IMPORTS = Set.of("java.util.Arrays");
    private static final Set<TypeKind> NUMBERS = Set.of(TypeKind.INT, TypeKind.LONG, TypeKind.BYTE, TypeKind.BOOLEAN,
        TypeKind.SHORT, TypeKind.CHAR);
    private static final Set<Tree.Kind> LOOPS = Set.of(Tree.Kind.FOR_LOOP, Tree.Kind.WHILE_LOOP,
        Tree.Kind.DO_WHILE_LOOP);
    private static final int PARAMETERS_MOST = 7;
    private static final int LINES_MOST = 60;
    private static final int DEEP_MOST = 8;
    private static final int CLASSES_MOST = 12;
    private static final int FIELDS_MOST = 20;

    private final Trees trees;
    private final CompilationUnitTree unit;
    private final List<String> broken = new ArrayList<>();
    private final Map<Element, Set<Element>> calls = new LinkedHashMap<>();
    private int classes = 0;

    private LanguageRules(Trees trees, CompilationUnitTree unit) {
        this.trees = trees;
        this.unit = unit;
    }

    /** A line for each breach, beginning with "rule N:"; the source must be one that javac takes. */
    static List<String> brokenIn(String source) {
        JavaFileObject file = new SimpleJavaFileObject(URI.create("mem:/TwoMetals.java"), JavaFileObject.Kind.SOURCE) {
            @Override
            public CharSequence getCharContent(boolean ignoreEncodingErrors) {
                return source;
            }
        };
        List<String> errors = new ArrayList<>();
        JavacTask task = (JavacTask) ToolProvider.getSystemJavaCompiler().getTask(null, null,
            told -> errors.add(told.toString()), List.of("-proc:none"), null, List.of(file));
        try {
            CompilationUnitTree unit = task.parse().iterator().next();
            task.analyze();
            if (!errors.isEmpty()) {
                return errors;
            }
            LanguageRules rules = new LanguageRules(Trees.instance(task), unit);
            rules.scan(unit, null);
            rules.lookAtDepth();
            rules.check(4, rules.isPlain(source), "a sign above 127", unit);
            return rules.broken;
        } catch (IOException e) {
            return List.of(e.toString());
        }
    }

    private boolean isPlain(String source) {
        return source.chars().allMatch(sign -> sign < 128);
    }

    private void check(int rule, boolean holds, String what, Tree tree) {
        if (!holds) {
            SourcePositions positions = trees.getSourcePositions();
            long line = unit.getLineMap().getLineNumber(Math.max(0, positions.getStartPosition(unit, tree)));
            broken.add("rule " + rule + ": " + what + " in line " + line);
        }
    }

    private Element element(Tree tree) {
        return trees.getElement(TreePath.getPath(unit, tree));
    }

    private boolean isOwn(Element element) {
        Element outer = element;
        while (outer.getEnclosingElement() instanceof TypeElement) {
            outer = outer.getEnclosingElement();
        }
        return outer instanceof TypeElement type && type.getQualifiedName().contentEquals("TwoMetals");
    }

    // ---- classes, members, types

    @Override
    public Void visitCompilationUnit(CompilationUnitTree tree, Void none) {
        check(1, tree.getPackageName() == null, "a package", tree);
        check(1, tree.getTypeDecls().size() == 1, "a second class beside it", tree);
        return super.visitCompilationUnit(tree, none);
    }

    @Override
    public Void visitImport(ImportTree tree, Void none) {
        check(4, IMPORTS.contains(tree.getQualifiedIdentifier().toString()), "an import", tree);
        return null;
    }

    @Override
    public Void visitClass(ClassTree tree, Void none) {
        classes++;
        check(11, classes <= CLASSES_MOST, "too many classes", tree);
        Tree around = getCurrentPath().getParentPath().getLeaf();
        Set<Modifier> modifiers = tree.getModifiers().getFlags();
        if (around instanceof CompilationUnitTree) {
            check(1, modifiers.contains(Modifier.PUBLIC) && modifiers.contains(Modifier.FINAL), "not public final", tree);
        } else {
            check(2, around instanceof ClassTree, "a class within a method", tree);
            check(2, tree.getKind() != Tree.Kind.CLASS || modifiers.contains(Modifier.STATIC), "an inner class", tree);
            check(1, !modifiers.contains(Modifier.PUBLIC) && !modifiers.contains(Modifier.PROTECTED),
                "a class that others see", tree);
        }
        lookAtMembers(tree);
        return super.visitClass(tree, none);
    }

    private void lookAtMembers(ClassTree tree) {
        int fields = 0;
        for (Tree member : tree.getMembers()) {
            check(5, !(member instanceof BlockTree block && block.isStatic()), "a static block", member);
            if (member instanceof VariableTree field && !field.getModifiers().getFlags().contains(Modifier.STATIC)) {
                fields++;
            }
        }
        check(11, fields <= FIELDS_MOST, "too many fields", tree);
    }

    @Override
    public Void visitMethod(MethodTree tree, Void none) {
        check(11, tree.getParameters().size() <= PARAMETERS_MOST, "too many parameters", tree);
        check(6, !Set.of("equals", "hashCode", "toString").contains(tree.getName().toString()), "a name", tree);
        check(6, tree.getThrows().isEmpty(), "throws", tree);
        check(6, !tree.getModifiers().getFlags().contains(Modifier.SYNCHRONIZED), "synchronized", tree);
        SourcePositions positions = trees.getSourcePositions();
        long end = positions.getEndPosition(unit, tree);
        if (end >= 0) {
            long first = unit.getLineMap().getLineNumber(positions.getStartPosition(unit, tree));
            check(11, unit.getLineMap().getLineNumber(end) - first < LINES_MOST, "too long a method", tree);
        }
        if (element(tree) instanceof ExecutableElement method) {
            check(3, method.getReturnType().getKind() == TypeKind.VOID || isAllowed(method.getReturnType()), "a type",
                tree);
            calls.putIfAbsent(method, new LinkedHashSet<>());
        }
        return super.visitMethod(tree, none);
    }

    @Override
    public Void visitVariable(VariableTree tree, Void none) {
        if (element(tree) instanceof VariableElement variable) {
            check(3, isAllowed(variable.asType()), "a type", tree);
            boolean isStatic = variable.getModifiers().contains(Modifier.STATIC);
            check(5, !isStatic || variable.getConstantValue() != null, "a static field that is no constant", tree);
        }
        return super.visitVariable(tree, none);
    }

    private boolean isAllowed(TypeMirror type) {
        if (type instanceof ArrayType array) {
            return !(array.getComponentType() instanceof ArrayType) && isAllowed(array.getComponentType());
        }
        boolean isOwnClass = type instanceof DeclaredType declared && isOwn(declared.asElement());
        return isOwnClass || NUMBERS.contains(type.getKind());
    }

    // ---- statements and signs that are ruled out

    @Override
    public Void visitLambdaExpression(LambdaExpressionTree tree, Void none) {
        check(2, false, "a lambda", tree);
        return super.visitLambdaExpression(tree, none);
    }

    @Override
    public Void visitMemberReference(MemberReferenceTree tree, Void none) {
        check(2, false, "a method reference", tree);
        return super.visitMemberReference(tree, none);
    }

    @Override
    public Void visitThrow(ThrowTree tree, Void none) {
        check(6, false, "throw", tree);
        return super.visitThrow(tree, none);
    }

    @Override
    public Void visitTry(TryTree tree, Void none) {
        check(6, false, "try", tree);
        return super.visitTry(tree, none);
    }

    @Override
    public Void visitSynchronized(SynchronizedTree tree, Void none) {
        check(6, false, "synchronized", tree);
        return super.visitSynchronized(tree, none);
    }

    @Override
    public Void visitAssert(AssertTree tree, Void none) {
        check(6, false, "assert", tree);
        return super.visitAssert(tree, none);
    }

    @Override
    public Void visitTypeCast(TypeCastTree tree, Void none) {
        TypeMirror type = trees.getTypeMirror(TreePath.getPath(unit, tree.getType()));
        check(6, NUMBERS.contains(type.getKind()), "a cast that may fail", tree);
        return super.visitTypeCast(tree, none);
    }

    // ---- calls and what is made

    @Override
    public Void visitMethodInvocation(MethodInvocationTree tree, Void none) {
        Element called = element(tree.getMethodSelect());
        boolean isConstructor = called.getSimpleName().contentEquals("<init>");
        if (isOwn(called)) {
            Element caller = callerAround();
            if (caller != null) {
                calls.computeIfAbsent(caller, key -> new LinkedHashSet<>()).add(called);
            }
        } else if (!isConstructor) {
            check(4, LIBRARY.contains(called.getEnclosingElement() + "." + called.getSimpleName()), "the library's "
                + called, tree);
        }
        return super.visitMethodInvocation(tree, none);
    }

    private MethodTree methodAround() {
        for (TreePath path = getCurrentPath(); path != null; path = path.getParentPath()) {
            if (path.getLeaf() instanceof MethodTree method) {
                return method;
            }
        }
        return null;
    }

    private Element callerAround() {
        MethodTree method = methodAround();
        return method == null ? null : element(method);
    }

    private boolean isWithinMaking() {
        MethodTree method = methodAround();
        return method == null || method.getName().contentEquals("<init>");
    }

    @Override
    public Void visitNewClass(NewClassTree tree, Void none) {
        check(2, tree.getClassBody() == null, "an anonymous class", tree);
        check(12, isWithinMaking(), "a call that makes an object", tree);
        return super.visitNewClass(tree, none);
    }

    @Override
    public Void visitNewArray(NewArrayTree tree, Void none) {
        check(12, isWithinMaking(), "a call that makes a row", tree);
        return super.visitNewArray(tree, none);
    }

    // ---- recursion and depth

    private void lookAtDepth() {
        for (Element method : calls.keySet()) {
            int deep = depthOf(method, new ArrayList<>());
            check(11, deep <= DEEP_MOST, "calls that go " + deep + " deep from " + method, unit);
        }
    }

    private int depthOf(Element method, List<Element> above) {
        if (above.contains(method)) {
            check(8, false, "a method that calls itself: " + method, unit);
            return 0;
        }
        List<Element> here = new ArrayList<>(above);
        here.add(method);
        int deepest = 0;
        for (Element called : calls.getOrDefault(method, Set.of())) {
            deepest = Math.max(deepest, depthOf(called, here));
        }
        return deepest + 1;
    }

    // ---- divisors

    @Override
    public Void visitBinary(BinaryTree tree, Void none) {
        if (tree.getKind() == Tree.Kind.DIVIDE || tree.getKind() == Tree.Kind.REMAINDER) {
            check(7, isNeverZero(tree.getRightOperand()), "a divisor that may be 0", tree);
        }
        return super.visitBinary(tree, none);
    }

    @Override
    public Void visitCompoundAssignment(CompoundAssignmentTree tree, Void none) {
        if (tree.getKind() == Tree.Kind.DIVIDE_ASSIGNMENT || tree.getKind() == Tree.Kind.REMAINDER_ASSIGNMENT) {
            check(7, isNeverZero(tree.getExpression()), "a divisor that may be 0", tree);
        }
        return super.visitCompoundAssignment(tree, none);
    }

    /** Math.max(1, ..), or a number, or THOUSAND times what the method has sent away if it is 0 or less. */
    private boolean isNeverZero(ExpressionTree divisor) {
        String words = divisor.toString();
        String bare = words.startsWith("(") ? words.substring(1, words.length() - 1) : words;
        if (bare.startsWith("Math.max(1, ") || bare.matches("[1-9][0-9]*")) {
            return true;
        }
        MethodTree method = methodAround();
        return method != null && bare.matches("THOUSAND \\* [a-zA-Z]+")
            && isSentAwayAtZero(method, bare.substring("THOUSAND * ".length()));
    }

    private static boolean isSentAwayAtZero(MethodTree method, String name) {
        StatementTree first = method.getBody().getStatements().get(0);
        return first instanceof IfTree test && test.getCondition().toString().equals("(" + name + " <= 0)")
            && test.getThenStatement() instanceof BlockTree block && !block.getStatements().isEmpty()
            && block.getStatements().get(block.getStatements().size() - 1).getKind() == Tree.Kind.RETURN;
    }

    // ---- loops

    @Override
    public Void scan(Tree tree, Void none) {
        if (tree != null && LOOPS.contains(tree.getKind())) {
            check(9, hasCounter(tree.toString()), "a loop without a counter", tree);
        }
        return super.scan(tree, none);
    }

    /** The condition is "counter < bound" or that and more; the counter is moved by ++ or -- and by nothing else. */
    private static boolean hasCounter(String loop) {
        Matcher found = Pattern.compile("^(?:for \\([^;]*; ([^;]*);|while \\((.*)\\) \\{)").matcher(loop);
        if (!found.find()) {
            return false;
        }
        String condition = found.group(1) != null ? found.group(1) : found.group(2);
        Matcher compared = Pattern.compile("^([a-z][a-zA-Z]*) (<|<=|>|>=) ").matcher(condition);
        if (!compared.find() || condition.contains("||")) {
            return false;
        }
        String name = compared.group(1);
        String step = name + (compared.group(2).startsWith("<") ? "++" : "--");
        // four blanks: a statement of the loop itself, not of an 'if' within it
        boolean steps = loop.contains("; " + step + ")") || loop.contains("\n    " + step + ";\n");
        boolean isSetAhead = loop.startsWith("for (int " + name + " = ");
        return steps && changesOf(name, loop) == (isSetAhead ? 2 : 1);
    }

    private static long changesOf(String name, String loop) {
        String change = "\\b" + name + "( [-+*/|&^]?= |\\+\\+|--)|(\\+\\+|--)" + name + "\\b";
        return Pattern.compile(change).matcher(loop).results().count();
    }

    @Override
    public Void visitEnhancedForLoop(EnhancedForLoopTree tree, Void none) {
        TypeMirror over = trees.getTypeMirror(TreePath.getPath(unit, tree.getExpression()));
        check(9, over instanceof ArrayType, "a loop over what is no row", tree);
        return super.visitEnhancedForLoop(tree, none);
    }
}
