import com.sun.source.tree.ClassTree;
import com.sun.source.tree.CompilationUnitTree;
import com.sun.source.tree.ForLoopTree;
import com.sun.source.tree.MemberSelectTree;
import com.sun.source.tree.MethodInvocationTree;
import com.sun.source.tree.MethodTree;
import com.sun.source.tree.NewClassTree;
import com.sun.source.tree.Tree;
import com.sun.source.tree.TypeCastTree;
import com.sun.source.tree.VariableTree;
import com.sun.source.tree.WhileLoopTree;
import com.sun.source.util.JavacTask;
import com.sun.source.util.TreePath;
import com.sun.source.util.TreePathScanner;
import com.sun.source.util.Trees;
import java.io.File;
import java.io.IOException;
import java.util.ArrayDeque;
import java.util.ArrayList;
import java.util.Deque;
import java.util.HashMap;
import java.util.HashSet;
import java.util.List;
import java.util.Map;
import java.util.Set;
import java.util.TreeSet;
import javax.lang.model.element.Element;
import javax.lang.model.element.ElementKind;
import javax.lang.model.element.ExecutableElement;
import javax.lang.model.element.Modifier;
import javax.lang.model.element.VariableElement;
import javax.lang.model.type.ArrayType;
import javax.lang.model.type.TypeKind;
import javax.lang.model.type.TypeMirror;
import javax.tools.JavaCompiler;
import javax.tools.StandardJavaFileManager;
import javax.tools.ToolProvider;

/** The rules of LANGUAGE.md, by their numbers, as the compiler itself sees the class. */
public final class LanguageTest extends TreePathScanner<Void, Void> {
    private static final int MOST_PARAMETERS = 7, MOST_LINES = 60, MOST_DEEP = 8, MOST_CLASSES = 12, MOST_FIELDS = 20;

    /** What the class uses of what rule 4 lets. */
    private static final Set<String> LIBRARY = Set.of(
        "java.lang.Math.max", "java.lang.Math.min", "java.lang.Math.abs", "java.lang.Long.compare",
        "java.lang.Long.numberOfLeadingZeros", "java.lang.Integer.rotateLeft", "java.lang.System.arraycopy",
        "java.util.Arrays.fill", "java.lang.Object.<init>");

    /** What rules 2 and 6 forbid; and reals, which the class reckons by their BITS instead. */
    private static final Set<Tree.Kind> BANNED = Set.of(
        Tree.Kind.THROW, Tree.Kind.TRY, Tree.Kind.CATCH, Tree.Kind.SYNCHRONIZED, Tree.Kind.ASSERT,
        Tree.Kind.LAMBDA_EXPRESSION, Tree.Kind.MEMBER_REFERENCE, Tree.Kind.DOUBLE_LITERAL, Tree.Kind.FLOAT_LITERAL);

    private final Trees trees;
    private final CompilationUnitTree unit;
    private final Set<String> publicNames = new TreeSet<>();
    private final List<ExecutableElement> hidden = new ArrayList<>();
    private final Map<ExecutableElement, Set<ExecutableElement>> calls = new HashMap<>();
    private final Map<ExecutableElement, Integer> depths = new HashMap<>();
    private final Deque<ExecutableElement> within = new ArrayDeque<>();
    private int classes;

    private LanguageTest(Trees trees, CompilationUnitTree unit) {
        this.trees = trees;
        this.unit = unit;
    }

    public static void main(String[] args) throws IOException {
        JavaCompiler compiler = ToolProvider.getSystemJavaCompiler();
        try (StandardJavaFileManager files = compiler.getStandardFileManager(null, null, null)) {
            File source = new File("src/main/java/RaceHouse.java");
            JavacTask task = (JavacTask) compiler.getTask(
                null, files, null, List.of("-proc:none"), null, files.getJavaFileObjects(source));
            CompilationUnitTree unit = task.parse().iterator().next();
            task.analyze();
            LanguageTest test = new LanguageTest(Trees.instance(task), unit);
            test.scan(unit, null);
            test.afterAll();
        }
        Due.end();
    }

    private static void holds(String rule, boolean so) {
        Due.due(rule, so ? 1 : 0, 1);
    }

    private long lineOf(Tree tree, boolean atEnd) {
        long at = atEnd
            ? trees.getSourcePositions().getEndPosition(unit, tree)
            : trees.getSourcePositions().getStartPosition(unit, tree);
        return unit.getLineMap().getLineNumber(at);
    }

    private Element elementOf(Tree tree) {
        return trees.getElement(TreePath.getPath(unit, tree));
    }

    private static boolean isOwn(Element e) {
        return e.toString().startsWith("RaceHouse");
    }

    @Override
    public Void scan(Tree tree, Void none) {
        if (tree != null && BANNED.contains(tree.getKind())) holds(tree.getKind() + " in line " + lineOf(tree, false), false);
        return super.scan(tree, none);
    }

    @Override
    public Void visitClass(ClassTree tree, Void none) {
        Element e = elementOf(tree);
        classes++;
        boolean outer = e.getEnclosingElement().getKind() == ElementKind.PACKAGE;
        holds("2: static within the class: " + e, outer || e.getModifiers().contains(Modifier.STATIC));
        int fields = 0;
        for (Element part : e.getEnclosedElements()) {
            if (part.getKind() == ElementKind.FIELD && !part.getModifiers().contains(Modifier.STATIC)) fields++;
            holds("5: no static block in " + e, part.getKind() != ElementKind.STATIC_INIT);
        }
        holds("11: some twenty fields in " + e + ": " + fields, fields <= MOST_FIELDS);
        return super.visitClass(tree, none);
    }

    @Override
    public Void visitMethod(MethodTree tree, Void none) {
        ExecutableElement e = (ExecutableElement) elementOf(tree);
        boolean shown = e.getModifiers().contains(Modifier.PUBLIC);
        if (shown && e.getKind() == ElementKind.METHOD) publicNames.add(e.getSimpleName().toString());
        if (!shown) hidden.add(e);
        holds("11: parameters of " + e, tree.getParameters().size() <= MOST_PARAMETERS);
        long lines = lineOf(tree, true) - lineOf(tree, false) + 1;
        holds("11: lines of " + e + ": " + lines, lines <= MOST_LINES);
        calls.putIfAbsent(e, new HashSet<>());
        within.push(e);
        super.visitMethod(tree, none);
        within.pop();
        return null;
    }

    @Override
    public Void visitVariable(VariableTree tree, Void none) {
        VariableElement e = (VariableElement) elementOf(tree);
        holds("3: the type of " + e + " in line " + lineOf(tree, false), isLet(e.asType()));
        if (e.getModifiers().contains(Modifier.STATIC)) {
            holds("5: final " + e, e.getModifiers().contains(Modifier.FINAL));
            boolean constant = e.getConstantValue() != null || e.asType().toString().equals("int[]");
            holds("5: a constant " + e, constant);
        }
        return super.visitVariable(tree, none);
    }

    private static boolean isLet(TypeMirror type) {
        if (type.getKind() == TypeKind.ARRAY) {
            TypeMirror of = ((ArrayType) type).getComponentType();
            return of.getKind() != TypeKind.ARRAY && isLet(of);
        }
        if (type.getKind() == TypeKind.DECLARED) return type.toString().startsWith("RaceHouse");
        return type.getKind().isPrimitive() && type.getKind() != TypeKind.DOUBLE && type.getKind() != TypeKind.FLOAT;
    }

    @Override
    public Void visitWhileLoop(WhileLoopTree tree, Void none) {
        holds("9: an end of the loop in line " + lineOf(tree, false), !isAlways(tree.getCondition()));
        return super.visitWhileLoop(tree, none);
    }

    @Override
    public Void visitForLoop(ForLoopTree tree, Void none) {
        boolean ends = tree.getCondition() != null && !isAlways(tree.getCondition());
        holds("9: an end of the loop in line " + lineOf(tree, false), ends);
        return super.visitForLoop(tree, none);
    }

    private static boolean isAlways(Tree condition) {
        return condition.toString().replaceAll("[()]", "").equals("true");
    }

    @Override
    public Void visitTypeCast(TypeCastTree tree, Void none) {
        TypeMirror to = trees.getTypeMirror(TreePath.getPath(unit, tree.getType()));
        holds("6: a cast in line " + lineOf(tree, false), to.getKind().isPrimitive() && isLet(to));
        return super.visitTypeCast(tree, none);
    }

    @Override
    public Void visitMethodInvocation(MethodInvocationTree tree, Void none) {
        called((ExecutableElement) elementOf(tree), lineOf(tree, false));
        return super.visitMethodInvocation(tree, none);
    }

    @Override
    public Void visitNewClass(NewClassTree tree, Void none) {
        holds("2: no anonymous class in line " + lineOf(tree, false), tree.getClassBody() == null);
        called((ExecutableElement) elementOf(tree), lineOf(tree, false));
        return super.visitNewClass(tree, none);
    }

    @Override
    public Void visitMemberSelect(MemberSelectTree tree, Void none) {
        holds("3: no class as a value in line " + lineOf(tree, false), !tree.getIdentifier().contentEquals("class"));
        return super.visitMemberSelect(tree, none);
    }

    private void called(ExecutableElement e, long line) {
        Element owner = e.getEnclosingElement();
        if (!isOwn(owner)) {
            String name = owner + "." + e.getSimpleName();
            holds("4: " + name + " in line " + line, LIBRARY.contains(name));
        } else if (!within.isEmpty()) {
            calls.get(within.peek()).add(e);
        }
    }

    private void afterAll() {
        holds("11: some twelve classes: " + classes, classes <= MOST_CLASSES);
        for (ExecutableElement e : hidden) {
            holds("1: a public one has the name of " + e, !publicNames.contains(e.getSimpleName().toString()));
        }
        for (ExecutableElement e : calls.keySet()) {
            int deep = deepFrom(e, new ArrayDeque<>());
            holds("11: calls from " + e.getEnclosingElement() + "." + e + " on go " + deep + " deep", deep <= MOST_DEEP);
        }
    }

    /** How many calls may stand open at once from a method on, itself among them. */
    private int deepFrom(ExecutableElement e, Deque<ExecutableElement> open) {
        if (depths.containsKey(e)) return depths.get(e);
        holds("8: no recursion by way of " + e, !open.contains(e));
        if (open.contains(e)) return 0;
        open.push(e);
        int deepest = 0;
        for (ExecutableElement next : calls.getOrDefault(e, Set.of())) deepest = Math.max(deepest, deepFrom(next, open));
        open.pop();
        depths.put(e, deepest + 1);
        return deepest + 1;
    }
}
