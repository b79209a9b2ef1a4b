import com.sun.source.tree.AssertTree;
import com.sun.source.tree.BinaryTree;
import com.sun.source.tree.BlockTree;
import com.sun.source.tree.ClassTree;
import com.sun.source.tree.CompilationUnitTree;
import com.sun.source.tree.ConditionalExpressionTree;
import com.sun.source.tree.DoWhileLoopTree;
import com.sun.source.tree.ExpressionTree;
import com.sun.source.tree.ForLoopTree;
import com.sun.source.tree.IdentifierTree;
import com.sun.source.tree.ImportTree;
import com.sun.source.tree.LambdaExpressionTree;
import com.sun.source.tree.LiteralTree;
import com.sun.source.tree.MemberReferenceTree;
import com.sun.source.tree.MemberSelectTree;
import com.sun.source.tree.MethodInvocationTree;
import com.sun.source.tree.MethodTree;
import com.sun.source.tree.NewArrayTree;
import com.sun.source.tree.NewClassTree;
import com.sun.source.tree.SynchronizedTree;
import com.sun.source.tree.ThrowTree;
import com.sun.source.tree.Tree;
import com.sun.source.tree.TryTree;
import com.sun.source.tree.TypeCastTree;
import com.sun.source.tree.VariableTree;
import com.sun.source.tree.WhileLoopTree;
import com.sun.source.util.JavacTask;
import com.sun.source.util.TreePath;
import com.sun.source.util.TreePathScanner;
import com.sun.source.util.Trees;
import java.nio.file.Files;
import java.nio.file.Path;
import java.util.List;
import java.util.Map;
import java.util.Set;
import java.util.TreeMap;
import java.util.TreeSet;
import javax.lang.model.element.Element;
import javax.lang.model.element.ElementKind;
import javax.lang.model.element.Modifier;
import javax.lang.model.element.TypeElement;
import javax.lang.model.type.TypeKind;
import javax.lang.model.type.TypeMirror;
import javax.tools.JavaCompiler;
import javax.tools.StandardJavaFileManager;
import javax.tools.ToolProvider;

/** The rules of ../shared/LANGUAGE.md, as the compiler sees the source; FaceTest has rule 1. Messages begin with the rule. */
public final class RulesTest extends TreePathScanner<Void, Void> {
    private static final String SOURCE = "src/main/java/LampsListen.java";
    private static final Set<String> IMPORTS = Set.of("java.util.Arrays", "java.util.ArrayList", "java.util.List", "java.util.Iterator");
    /** Of what rule 4 lists all that takes numbers; lists are not used. */
    private static final Set<String> LIBRARY = Set.of(
        "java.lang.String.length", "java.lang.String.charAt", "java.lang.String.isEmpty", "java.lang.String.equals",
        "java.lang.Math.max", "java.lang.Math.min", "java.lang.Math.abs", "java.lang.Math.floorDiv", "java.lang.Math.floorMod",
        "java.lang.Integer.bitCount", "java.lang.Integer.compare", "java.lang.Integer.numberOfTrailingZeros",
        "java.lang.Long.bitCount", "java.lang.Long.compare", "java.lang.System.arraycopy",
        "java.util.Arrays.fill", "java.util.Arrays.copyOf", "java.util.Arrays.copyOfRange");
    private static final Set<String> TYPES = Set.of("java.lang.String", "java.lang.Math", "java.lang.Integer", "java.lang.Long",
        "java.lang.System", "java.util.Arrays");
    private static final Set<String> CONSTANTS = Set.of("int", "long", "boolean", "char", "java.lang.String", "int[]", "long[]", "char[]", "byte[]");

    private static final Check C = new Check("RulesTest");

    private final Trees trees;
    private final CompilationUnitTree unit;
    private final Map<String, Set<String>> calls = new TreeMap<>();
    private int classes;
    private int methods;

    private RulesTest(Trees trees, CompilationUnitTree unit) {
        this.trees = trees;
        this.unit = unit;
    }

    public static void main(String[] args) throws Exception {
        String source = Files.readString(Path.of(SOURCE));
        C.holds("4: signs 1 to 127 alone", source.chars().allMatch(c -> c > 0 && c < 128));
        JavaCompiler compiler = ToolProvider.getSystemJavaCompiler();
        try (StandardJavaFileManager files = compiler.getStandardFileManager(null, null, null)) {
            JavacTask task = (JavacTask) compiler.getTask(null, files, null, List.of("-proc:none"), null, files.getJavaFileObjects(Path.of(SOURCE)));
            CompilationUnitTree unit = task.parse().iterator().next();
            task.analyze();
            RulesTest rules = new RulesTest(Trees.instance(task), unit);
            rules.scan(unit, null);
            rules.end();
        }
        C.end();
    }

    private void end() {
        C.holds("3: no package", unit.getPackage() == null);
        C.due("1: classes beside the others", unit.getTypeDecls().size(), 1);
        C.holds("11: some twelve classes, not " + classes, classes <= 12);
        C.holds("methods were found", methods > 100);
        C.holds("calls were found", calls.size() > 80);
        for (String method : calls.keySet()) {
            int depth = depth(method, new TreeSet<>());
            C.holds("8, 11: no recursion, at most eight deep: " + method + " " + depth, depth <= 8);
        }
    }

    /** How many calls stand open at once; far too many, if one stands open already. */
    private int depth(String method, Set<String> open) {
        if (!open.add(method)) {
            return 1000;
        }
        int deepest = 0;
        for (String called : calls.getOrDefault(method, Set.of())) {
            deepest = Math.max(deepest, depth(called, open));
        }
        open.remove(method);
        return deepest + 1;
    }

    // ---- where something stands

    private void no(String what, Tree tree) {
        C.holds(what + " at line " + unit.getLineMap().getLineNumber(start(tree)) + ": " + firstLine(tree), false);
    }

    private static String firstLine(Tree tree) {
        return tree.toString().strip().lines().findFirst().orElse("");
    }

    private long start(Tree tree) {
        return trees.getSourcePositions().getStartPosition(unit, tree);
    }

    private long lines(Tree tree) {
        long end = trees.getSourcePositions().getEndPosition(unit, tree);
        return unit.getLineMap().getLineNumber(end) - unit.getLineMap().getLineNumber(start(tree)) + 1;
    }

    private Element element(Tree tree) {
        return trees.getElement(TreePath.getPath(unit, tree));
    }

    private TypeMirror type(Tree tree) {
        return trees.getTypeMirror(TreePath.getPath(unit, tree));
    }

    private MethodTree around() {
        for (TreePath p = getCurrentPath(); p != null; p = p.getParentPath()) {
            if (p.getLeaf() instanceof MethodTree m) {
                return m;
            }
        }
        return null;
    }

    private static boolean isOwn(String name) {
        return name.equals("LampsListen") || name.startsWith("LampsListen.");
    }

    // ---- classes, methods, fields

    @Override
    public Void visitImport(ImportTree tree, Void none) {
        C.holds("4: import of " + tree, IMPORTS.contains(tree.getQualifiedIdentifier().toString()));
        return null;
    }

    @Override
    public Void visitClass(ClassTree tree, Void none) {
        classes++;
        Tree parent = getCurrentPath().getParentPath().getLeaf();
        Set<Modifier> modifiers = tree.getModifiers().getFlags();
        if (parent instanceof ClassTree) {
            boolean isHidden = !modifiers.contains(Modifier.PUBLIC) && !modifiers.contains(Modifier.PROTECTED);
            C.holds("1, 2: static and not public: " + tree.getSimpleName(), isHidden && modifiers.contains(Modifier.STATIC));
        } else if (parent != unit) {
            no("2: a class that is local or anonymous", tree);
        }
        int fields = 0;
        for (Tree member : tree.getMembers()) {
            boolean isConstant = member instanceof VariableTree v && v.getModifiers().getFlags().contains(Modifier.STATIC);
            fields += member instanceof VariableTree && !isConstant ? 1 : 0;
            if (member instanceof BlockTree) {
                no("5: an initialiser block", member);
            }
        }
        C.holds("11: some twenty fields in " + tree.getSimpleName() + ", not " + fields, fields <= 20);
        return super.visitClass(tree, none);
    }

    @Override
    public Void visitMethod(MethodTree tree, Void none) {
        methods++;
        String name = tree.getName().toString();
        C.holds("11: seven parameters at most: " + name, tree.getParameters().size() <= 7);
        C.holds("11: some sixty lines at most: " + name, lines(tree) <= 60);
        C.holds("6: " + name, !name.equals("equals") && !name.equals("hashCode") && !name.equals("toString"));
        C.holds("6: throws of " + name, tree.getThrows().isEmpty());
        return super.visitMethod(tree, none);
    }

    @Override
    public Void visitVariable(VariableTree tree, Void none) {
        Element variable = element(tree);
        String type = type(tree).toString();
        C.holds("3: type " + type, isAllowed(type(tree)));
        if (variable.getKind() == ElementKind.FIELD && variable.getModifiers().contains(Modifier.STATIC)) {
            C.holds("5: a final constant: " + tree.getName(), variable.getModifiers().contains(Modifier.FINAL)
                && CONSTANTS.contains(type) && tree.getInitializer() != null);
        }
        return super.visitVariable(tree, none);
    }

    private static boolean isAllowed(TypeMirror type) {
        String name = type.toString();
        return type.getKind().isPrimitive() || name.equals("java.lang.String") || isOwn(name)
            || name.matches("(int|long|short|byte|char|double|float)\\[\\](\\[\\])?|boolean\\[\\]|LampsListen[.\\w]*\\[\\]");
    }

    // ---- calls, names

    @Override
    public Void visitMethodInvocation(MethodInvocationTree tree, Void none) {
        Element called = element(tree.getMethodSelect());
        TypeElement owner = (TypeElement) called.getEnclosingElement();
        String name = owner.getQualifiedName() + "." + called.getSimpleName();
        if (isOwn(owner.getQualifiedName().toString())) {
            note(name);
        } else if (!name.equals("java.lang.Object.<init>")) {
            boolean isClone = name.endsWith(".clone") && type(tree).getKind() == TypeKind.ARRAY;
            C.holds("4: " + name, LIBRARY.contains(name) || isClone);
        }
        return super.visitMethodInvocation(tree, none);
    }

    private void note(String called) {
        MethodTree from = around();
        if (from != null) {
            Element method = element(from);
            String name = ((TypeElement) method.getEnclosingElement()).getQualifiedName() + "." + method.getSimpleName();
            calls.computeIfAbsent(name, k -> new TreeSet<>()).add(called);
        }
    }

    @Override
    public Void visitIdentifier(IdentifierTree tree, Void none) {
        knownType(element(tree));
        return null;
    }

    @Override
    public Void visitMemberSelect(MemberSelectTree tree, Void none) {
        knownType(element(tree));
        return super.visitMemberSelect(tree, none);
    }

    private static void knownType(Element named) {
        if (named instanceof TypeElement t && !isOwn(t.getQualifiedName().toString())) {
            C.holds("3, 4: " + t.getQualifiedName(), TYPES.contains(t.getQualifiedName().toString()));
        }
    }

    // ---- what is made: in constructors and fields alone, which is stricter than rule 12

    @Override
    public Void visitNewClass(NewClassTree tree, Void none) {
        made(tree);
        if (tree.getClassBody() != null) {
            no("2: an anonymous class", tree);
        }
        return super.visitNewClass(tree, none);
    }

    @Override
    public Void visitNewArray(NewArrayTree tree, Void none) {
        made(tree);
        return super.visitNewArray(tree, none);
    }

    private void made(Tree tree) {
        MethodTree method = around();
        C.holds("12: made by a constructor: " + tree, method == null || method.getName().contentEquals("<init>"));
    }

    // ---- loops, divisors, casts, texts

    @Override
    public Void visitForLoop(ForLoopTree tree, Void none) {
        C.holds("9: an end of " + firstLine(tree), tree.getCondition() != null && !tree.getUpdate().isEmpty());
        return super.visitForLoop(tree, none);
    }

    @Override
    public Void visitWhileLoop(WhileLoopTree tree, Void none) {
        bounded(tree.getCondition());
        return super.visitWhileLoop(tree, none);
    }

    @Override
    public Void visitDoWhileLoop(DoWhileLoopTree tree, Void none) {
        bounded(tree.getCondition());
        return super.visitDoWhileLoop(tree, none);
    }

    private static void bounded(ExpressionTree condition) {
        C.holds("9: a bound in " + condition, condition.toString().contains("<") || condition.toString().contains(">"));
    }

    @Override
    public Void visitBinary(BinaryTree tree, Void none) {
        if (tree.getKind() == Tree.Kind.DIVIDE || tree.getKind() == Tree.Kind.REMAINDER) {
            C.holds("7: a divisor looked at: " + tree, isSafe(tree.getRightOperand()));
        }
        if (tree.getKind() == Tree.Kind.PLUS) {
            C.holds("10: texts joined: " + tree, !type(tree).toString().equals("java.lang.String"));
        }
        if (tree.getKind() == Tree.Kind.EQUAL_TO || tree.getKind() == Tree.Kind.NOT_EQUAL_TO) {
            String type = type(tree.getLeftOperand()).toString();
            C.holds("6: " + tree, !type.equals("java.lang.String") && !type.equals("java.lang.Integer"));
        }
        return super.visitBinary(tree, none);
    }

    /** A number that is written there, or a name behind the question whether it is above 0. */
    private boolean isSafe(ExpressionTree divisor) {
        if (divisor instanceof LiteralTree l) {
            return l.getValue() instanceof Integer i && i != 0 || l.getValue() instanceof Long w && w != 0;
        }
        for (TreePath p = getCurrentPath(); p != null; p = p.getParentPath()) {
            if (p.getLeaf() instanceof ConditionalExpressionTree c && c.getCondition().toString().equals("(" + divisor + " > 0)")) {
                return true;
            }
            if (p.getLeaf() instanceof ConditionalExpressionTree c && c.getCondition().toString().equals(divisor + " > 0")) {
                return true;
            }
        }
        return false;
    }

    @Override
    public Void visitTypeCast(TypeCastTree tree, Void none) {
        C.holds("6, 7: a cast among numbers: " + tree, type(tree).getKind().isPrimitive() && type(tree.getExpression()).getKind().isPrimitive());
        return super.visitTypeCast(tree, none);
    }

    // ---- what may not stand at all

    @Override
    public Void visitThrow(ThrowTree tree, Void none) {
        no("6: throw", tree);
        return null;
    }

    @Override
    public Void visitTry(TryTree tree, Void none) {
        no("6: try", tree);
        return null;
    }

    @Override
    public Void visitSynchronized(SynchronizedTree tree, Void none) {
        no("6: synchronized", tree);
        return null;
    }

    @Override
    public Void visitAssert(AssertTree tree, Void none) {
        no("6: assert", tree);
        return null;
    }

    @Override
    public Void visitLambdaExpression(LambdaExpressionTree tree, Void none) {
        no("2: a lambda", tree);
        return null;
    }

    @Override
    public Void visitMemberReference(MemberReferenceTree tree, Void none) {
        no("2: a method reference", tree);
        return null;
    }
}
