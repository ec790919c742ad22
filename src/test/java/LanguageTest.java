import com.sun.source.tree.ArrayAccessTree;
import com.sun.source.tree.AssertTree;
import com.sun.source.tree.BinaryTree;
import com.sun.source.tree.BlockTree;
import com.sun.source.tree.ClassTree;
import com.sun.source.tree.CompilationUnitTree;
import com.sun.source.tree.ConditionalExpressionTree;
import com.sun.source.tree.ExpressionTree;
import com.sun.source.tree.ForLoopTree;
import com.sun.source.tree.IfTree;
import com.sun.source.tree.ImportTree;
import com.sun.source.tree.LambdaExpressionTree;
import com.sun.source.tree.LiteralTree;
import com.sun.source.tree.MemberReferenceTree;
import com.sun.source.tree.MethodInvocationTree;
import com.sun.source.tree.MethodTree;
import com.sun.source.tree.NewArrayTree;
import com.sun.source.tree.NewClassTree;
import com.sun.source.tree.SynchronizedTree;
import com.sun.source.tree.ThrowTree;
import com.sun.source.tree.Tree;
import com.sun.source.tree.TryTree;
import com.sun.source.tree.TypeCastTree;
import com.sun.source.tree.VariableTree;
import com.sun.source.tree.WhileLoopTree;
import com.sun.source.util.JavacTask;
import com.sun.source.util.TreePath;
import com.sun.source.util.TreePathScanner;
import com.sun.source.util.Trees;
import java.io.File;
import java.io.IOException;
import java.util.ArrayList;
import java.util.HashSet;
import java.util.List;
import java.util.Map;
import java.util.Set;
import java.util.TreeMap;
import java.util.TreeSet;
import javax.lang.model.element.Element;
import javax.lang.model.element.ElementKind;
import javax.lang.model.element.ExecutableElement;
import javax.lang.model.element.Modifier;
import javax.lang.model.element.VariableElement;
import javax.tools.JavaCompiler;
import javax.tools.StandardJavaFileManager;
import javax.tools.ToolProvider;

/**
 * The rules of LANGUAGE.md that can be read off the source. Where the class needs less than a rule leaves, less is
 * allowed here: no try, no object or array but in a field's own initialiser, no index but in at and put.
 */
public final class LanguageTest extends TreePathScanner<Void, Void> {
    private static final File SOURCE = new File("src/main/java/SkyHeirs.java");
    private static final Set<String> IMPORTS = Set.of("java.util.NoSuchElementException");
    private static final Set<String> THROWN = Set.of("java.util.NoSuchElementException", "java.lang.IllegalArgumentException");
    private static final Set<String> LIBRARY = Set.of("java.lang.Math.min(int,int)", "java.lang.Math.max(int,int)",
            "java.lang.Math.abs(int)", "java.lang.String.length()", "java.lang.String.charAt(int)",
            "java.lang.System.arraycopy(java.lang.Object,int,java.lang.Object,int,int)");
    private static final String TYPES = "void|(int|boolean)(\\[\\])?|(java\\.lang\\.)?String|SkyHeirs(\\.\\w+)?";
    private static final Set<String> INDEXING = Set.of("at", "put");
    private static final int MOST_CLASSES = 12;
    private static final int MOST_FIELDS = 20;
    private static final int MOST_LINES = 60;
    private static final int MOST_PARAMETERS = 7;
    private static final int MOST_DEEP = 8;

    private final Trees trees;
    private final CompilationUnitTree unit;
    private final Map<String, Set<String>> calls = new TreeMap<>();
    private final Set<String> secret = new HashSet<>();
    private int classes = 0;

    private LanguageTest(Trees trees, CompilationUnitTree unit) {
        this.trees = trees;
        this.unit = unit;
    }

    public static void main(String[] args) throws IOException {
        JavaCompiler compiler = ToolProvider.getSystemJavaCompiler();
        try (StandardJavaFileManager files = compiler.getStandardFileManager(null, null, null)) {
            JavacTask task = (JavacTask) compiler.getTask(null, files, null, null, null, files.getJavaFileObjects(SOURCE));
            CompilationUnitTree unit = task.parse().iterator().next();
            task.analyze();
            LanguageTest test = new LanguageTest(Trees.instance(task), unit);
            test.unit();
            test.scan(unit, null);
            Due.is("rule 11: some twelve classes", test.classes <= MOST_CLASSES, true);
            test.callsOfCalls();
        }
        Due.end("LanguageTest");
    }

    private void rule(int rule, boolean isKept, String what, Tree tree) {
        long line = unit.getLineMap().getLineNumber(trees.getSourcePositions().getStartPosition(unit, tree));
        Due.is("rule " + rule + ": " + what + " in line " + line, isKept, true);
    }

    private void unit() {
        rule(1, unit.getPackageName() == null, "no package", unit);
        rule(1, unit.getTypeDecls().size() == 1, "one class", unit);
        for (ImportTree one : unit.getImports()) {
            rule(4, IMPORTS.contains(one.getQualifiedIdentifier().toString()), "an import", one);
        }
    }

    // ---- classes, fields, methods ----

    @Override
    public Void visitClass(ClassTree tree, Void none) {
        classes++;
        Set<Modifier> modifiers = tree.getModifiers().getFlags();
        boolean isOuter = getCurrentPath().getParentPath().getLeaf() == unit;
        if (isOuter) {
            rule(1, modifiers.equals(Set.of(Modifier.PUBLIC, Modifier.FINAL)), "public and final", tree);
        } else {
            rule(1, modifiers.contains(Modifier.PRIVATE) && modifiers.contains(Modifier.STATIC), "private and static", tree);
        }
        int fields = 0;
        for (Tree member : tree.getMembers()) {
            rule(5, !(member instanceof BlockTree), "no initialiser block", member);
            boolean isField = member instanceof VariableTree v && !v.getModifiers().getFlags().contains(Modifier.STATIC);
            fields += isField ? 1 : 0;
        }
        rule(11, fields <= MOST_FIELDS, "some twenty fields", tree);
        return super.visitClass(tree, none);
    }

    @Override
    public Void visitVariable(VariableTree tree, Void none) {
        String type = trees.getTypeMirror(new TreePath(getCurrentPath(), tree.getType())).toString();
        rule(3, type.matches(TYPES), "the type " + type, tree);
        Set<Modifier> modifiers = tree.getModifiers().getFlags();
        if (modifiers.contains(Modifier.STATIC)) {
            boolean isConstant = modifiers.contains(Modifier.FINAL) && type.equals("int")
                    && ((VariableElement) trees.getElement(getCurrentPath())).getConstantValue() != null;
            rule(5, isConstant, "a constant", tree);
        }
        return super.visitVariable(tree, none);
    }

    @Override
    public Void visitMethod(MethodTree tree, Void none) {
        String name = nameOf(trees.getElement(getCurrentPath()));
        calls.computeIfAbsent(name, key -> new TreeSet<>());
        if (tree.getModifiers().getFlags().contains(Modifier.PRIVATE)) {
            secret.add(name);
        }
        if (tree.getReturnType() != null) {
            String type = trees.getTypeMirror(new TreePath(getCurrentPath(), tree.getReturnType())).toString();
            rule(3, type.matches(TYPES), "the type " + type, tree);
        }
        rule(6, !Set.of("equals", "hashCode", "toString").contains(tree.getName().toString()), "none of Object's", tree);
        rule(11, tree.getParameters().size() <= MOST_PARAMETERS, "seven parameters", tree);
        rule(11, lines(tree) <= MOST_LINES, "some sixty lines", tree);
        return super.visitMethod(tree, none);
    }

    private long lines(Tree tree) {
        long first = unit.getLineMap().getLineNumber(trees.getSourcePositions().getStartPosition(unit, tree));
        long end = trees.getSourcePositions().getEndPosition(unit, tree);
        return end < 0 ? 0 : unit.getLineMap().getLineNumber(end) - first + 1;
    }

    /** The nearest method round what is looked at, or null in a field's initialiser. */
    private MethodTree method() {
        for (TreePath path = getCurrentPath(); path != null; path = path.getParentPath()) {
            if (path.getLeaf() instanceof MethodTree m) {
                return m;
            }
        }
        return null;
    }

    // ---- what stands in methods ----

    @Override
    public Void visitMethodInvocation(MethodInvocationTree tree, Void none) {
        ExecutableElement called = (ExecutableElement) trees.getElement(getCurrentPath());
        String owner = called.getEnclosingElement().toString();
        if (called.getKind() == ElementKind.CONSTRUCTOR) {
            rule(6, owner.equals("java.lang.Object"), "no class but Object above", tree);
        } else if (owner.startsWith("SkyHeirs")) {
            rule(7, method() != null, "no call ahead of the constructor", tree);
            if (method() != null) {
                TreePath caller = trees.getPath(unit, method());
                calls.computeIfAbsent(nameOf(trees.getElement(caller)), key -> new TreeSet<>()).add(nameOf(called));
            }
        } else {
            rule(4, LIBRARY.contains(owner + "." + called), "the library's " + owner + "." + called, tree);
        }
        return super.visitMethodInvocation(tree, none);
    }

    private static String nameOf(Element method) {
        return method.getEnclosingElement() + "." + method;
    }

    @Override
    public Void visitNewClass(NewClassTree tree, Void none) {
        String made = trees.getTypeMirror(getCurrentPath()).toString();
        rule(2, tree.getClassBody() == null, "no anonymous class", tree);
        if (getCurrentPath().getParentPath().getLeaf() instanceof ThrowTree) {
            rule(6, THROWN.contains(made) && tree.getArguments().isEmpty(), "throw new " + made, tree);
        } else {
            rule(12, method() == null && made.startsWith("SkyHeirs."), "an object made with its owner", tree);
        }
        return super.visitNewClass(tree, none);
    }

    @Override
    public Void visitNewArray(NewArrayTree tree, Void none) {
        rule(12, method() == null, "an array made with its owner", tree);
        return super.visitNewArray(tree, none);
    }

    @Override
    public Void visitThrow(ThrowTree tree, Void none) {
        rule(6, tree.getExpression() instanceof NewClassTree, "throw new", tree);
        rule(6, method() != null && method().getReturnType() != null, "no throw in a constructor", tree);
        return super.visitThrow(tree, none);
    }

    @Override
    public Void visitArrayAccess(ArrayAccessTree tree, Void none) {
        rule(7, method() != null && INDEXING.contains(method().getName().toString()), "an index, looked at", tree);
        return super.visitArrayAccess(tree, none);
    }

    @Override
    public Void visitBinary(BinaryTree tree, Void none) {
        if (tree.getKind() == Tree.Kind.DIVIDE || tree.getKind() == Tree.Kind.REMAINDER) {
            rule(7, isConstant(tree.getRightOperand()) || isLookedAt(tree.getRightOperand()), "a divisor, looked at", tree);
        }
        if (tree.getKind() == Tree.Kind.PLUS) {
            rule(10, !trees.getTypeMirror(getCurrentPath()).toString().endsWith("String"), "no texts by +", tree);
        }
        return super.visitBinary(tree, none);
    }

    private boolean isConstant(ExpressionTree divisor) {
        if (divisor instanceof LiteralTree literal) {
            return !literal.getValue().equals(0);
        }
        Element named = trees.getElement(new TreePath(getCurrentPath(), divisor));
        return named instanceof VariableElement v && v.getConstantValue() != null && !v.getConstantValue().equals(0);
    }

    /** The division stands on one side of a ?: or in an if that names the divisor ahead of it. */
    private boolean isLookedAt(ExpressionTree divisor) {
        for (TreePath path = getCurrentPath(); path != null; path = path.getParentPath()) {
            Tree test = path.getLeaf() instanceof ConditionalExpressionTree c ? c.getCondition()
                    : path.getLeaf() instanceof IfTree i ? i.getCondition() : null;
            if (test != null && test.toString().matches(".*\\b" + divisor + " (< 1|== 0)\\b.*")) {
                return true;
            }
        }
        return false;
    }

    @Override
    public Void visitForLoop(ForLoopTree tree, Void none) {
        rule(9, tree.getCondition() != null && !(tree.getCondition() instanceof LiteralTree), "an end that is seen", tree);
        return super.visitForLoop(tree, none);
    }

    @Override
    public Void visitWhileLoop(WhileLoopTree tree, Void none) {
        rule(9, tree.getCondition().toString().contains(" < "), "a counter against a bound", tree);
        return super.visitWhileLoop(tree, none);
    }

    @Override
    public Void visitLiteral(LiteralTree tree, Void none) {
        if (tree.getValue() instanceof String text) {
            rule(4, text.chars().allMatch(sign -> sign > 0 && sign < 128), "signs 1 to 127", tree);
        }
        return super.visitLiteral(tree, none);
    }

    @Override
    public Void visitLambdaExpression(LambdaExpressionTree tree, Void none) {
        rule(2, false, "no lambda", tree);
        return null;
    }

    @Override
    public Void visitMemberReference(MemberReferenceTree tree, Void none) {
        rule(2, false, "no method reference", tree);
        return null;
    }

    @Override
    public Void visitTry(TryTree tree, Void none) {
        rule(6, false, "no try", tree);
        return null;
    }

    @Override
    public Void visitSynchronized(SynchronizedTree tree, Void none) {
        rule(6, false, "no synchronized", tree);
        return null;
    }

    @Override
    public Void visitAssert(AssertTree tree, Void none) {
        rule(6, false, "no assert", tree);
        return null;
    }

    @Override
    public Void visitTypeCast(TypeCastTree tree, Void none) {
        rule(6, false, "no cast", tree);
        return null;
    }

    // ---- who calls whom ----

    private Set<String> reached(String from) {
        Set<String> reached = new TreeSet<>();
        List<String> next = new ArrayList<>(calls.getOrDefault(from, Set.of()));
        while (!next.isEmpty()) {
            String one = next.remove(next.size() - 1);
            if (reached.add(one)) {
                next.addAll(calls.getOrDefault(one, Set.of()));
            }
        }
        return reached;
    }

    /** Methods that call one another count as one step and are private; no chain has more than eight. */
    private void callsOfCalls() {
        Map<String, Set<String>> reached = new TreeMap<>();
        calls.keySet().forEach(name -> reached.put(name, reached(name)));
        for (String name : calls.keySet()) {
            boolean isRecursion = reached.get(name).contains(name);
            Due.is("rule 8: " + name + " calls itself and is private", !isRecursion || secret.contains(name), true);
            int deep = deep(name, reached, new TreeMap<>());
            Due.is("rule 11: calls from " + name + " go " + deep + " deep", deep <= MOST_DEEP, true);
        }
    }

    private int deep(String name, Map<String, Set<String>> reached, Map<String, Integer> known) {
        if (known.containsKey(name)) {
            return known.get(name);
        }
        int deepest = 0;
        for (String member : calls.keySet()) {
            boolean isOneOfThem = member.equals(name) || reached.get(name).contains(member) && reached.get(member).contains(name);
            for (String called : isOneOfThem ? calls.get(member) : Set.<String>of()) {
                boolean isBack = called.equals(name) || reached.get(called).contains(name);
                deepest = Math.max(deepest, isBack ? 0 : deep(called, reached, known));
            }
        }
        known.put(name, deepest + 1);
        return deepest + 1;
    }
}
