import static java.util.Map.entry;

import com.sun.source.tree.BlockTree;
import com.sun.source.tree.ClassTree;
import com.sun.source.tree.CompilationUnitTree;
import com.sun.source.tree.ForLoopTree;
import com.sun.source.tree.MethodInvocationTree;
import com.sun.source.tree.MethodTree;
import com.sun.source.tree.NewArrayTree;
import com.sun.source.tree.NewClassTree;
import com.sun.source.tree.Tree;
import com.sun.source.tree.VariableTree;
import com.sun.source.util.JavacTask;
import com.sun.source.util.SourcePositions;
import com.sun.source.util.TreePathScanner;
import com.sun.source.util.Trees;
import java.io.IOException;
import java.nio.file.Path;
import java.util.HashMap;
import java.util.HashSet;
import java.util.Map;
import java.util.Set;
import java.util.TreeSet;
import javax.lang.model.element.Element;
import javax.lang.model.element.ElementKind;
import javax.lang.model.element.ExecutableElement;
import javax.lang.model.element.Modifier;
import javax.tools.JavaCompiler;
import javax.tools.StandardJavaFileManager;
import javax.tools.ToolProvider;

/**
 * The source keeps to LANGUAGE.md, as far as its form shows it. What the rules leave but this program
 * has no use for (texts, lists, division, while, recursion, objects made by a call) is ruled out here
 * too, as that is plainer to look at: whoever needs it changes the sets below, within the rules. That no
 * call throws or goes on for ever, for any arguments, is for the tests that make the calls.
 */
public final class LanguageTest extends TreePathScanner<Void, Void> {
    private static final Path SOURCE = Path.of("src/main/java/MiddleClaims.java");
    private static final Set<String> USED_TYPES = Set.of("int", "long", "char", "boolean", "int[]", "long[]",
        "char[]", "boolean[]", "Clauses", "Clauses[]", "History", "Text", "Proof");
    private static final Set<String> USED_STATIC_TYPES = Set.of("int", "long", "char", "boolean", "long[]");
    private static final Set<String> USED_LIBRARY = Set.of("Integer.bitCount", "Long.bitCount", "Math.max");
    private static final Map<Tree.Kind, String> RULED_OUT = Map.ofEntries(
        entry(Tree.Kind.LAMBDA_EXPRESSION, "rule 2"), entry(Tree.Kind.MEMBER_REFERENCE, "rule 2"),
        entry(Tree.Kind.IMPORT, "rule 4"), entry(Tree.Kind.THROW, "rule 6"), entry(Tree.Kind.TRY, "rule 6"),
        entry(Tree.Kind.SYNCHRONIZED, "rule 6"), entry(Tree.Kind.ASSERT, "rule 6"),
        entry(Tree.Kind.INSTANCE_OF, "rule 6"), entry(Tree.Kind.DIVIDE, "rule 7"),
        entry(Tree.Kind.REMAINDER, "rule 7"), entry(Tree.Kind.DIVIDE_ASSIGNMENT, "rule 7"),
        entry(Tree.Kind.REMAINDER_ASSIGNMENT, "rule 7"), entry(Tree.Kind.WHILE_LOOP, "rule 9"),
        entry(Tree.Kind.DO_WHILE_LOOP, "rule 9"), entry(Tree.Kind.STRING_LITERAL, "rule 10"));
    private static final Checks CHECKS = new Checks();

    private final CompilationUnitTree unit;
    private final Trees trees;
    private final Map<Element, Set<Element>> calls = new HashMap<>();
    private final Set<String> publicNames = new TreeSet<>();
    private final Set<String> otherNames = new TreeSet<>();
    private int classes = 0;

    private LanguageTest(CompilationUnitTree unit, Trees trees) {
        this.unit = unit;
        this.trees = trees;
    }

    public static void main(String[] args) throws IOException {
        JavaCompiler compiler = ToolProvider.getSystemJavaCompiler();
        try (StandardJavaFileManager files = compiler.getStandardFileManager(null, null, null)) {
            JavacTask task = (JavacTask) compiler.getTask(null, files, null, null, null,
                files.getJavaFileObjects(SOURCE));
            CompilationUnitTree unit = task.parse().iterator().next();
            task.analyze();
            new LanguageTest(unit, Trees.instance(task)).look();
        }
        CHECKS.end();
    }

    private void look() {
        scan(unit, null);
        CHECKS.due("rule 1: package lines", unit.getPackage() == null ? 0 : 1, 0);
        CHECKS.due("rule 1: classes of the file", unit.getTypeDecls().size(), 1);
        atMost("rule 11: classes", classes, 12);
        publicNames.remove("<init>");
        for (String name : otherNames) {
            none("rule 1: a method that is not public bears the name of a public one: " + name,
                publicNames.contains(name));
        }
        for (Element method : calls.keySet()) {
            atMost("rule 11: the calls from " + method + " go deep", depth(method, new HashSet<>()), 8);
        }
    }

    private static void none(String what, boolean isThere) {
        CHECKS.due(what, isThere ? 1 : 0, 0);
    }

    private static void atMost(String what, int got, int most) {
        CHECKS.due(what + " " + got + ", at most " + most, Math.max(got, most), most);
    }

    /** How many calls stand open at most; a method that stands open already would be a recursion. */
    private int depth(Element method, Set<Element> open) {
        int deepest = 0;
        open.add(method);
        for (Element called : calls.getOrDefault(method, Set.of())) {
            boolean isOpen = open.contains(called);
            none("rule 8: " + called + " is called while it stands open", isOpen);
            deepest = Math.max(deepest, isOpen ? 0 : depth(called, open));
        }
        open.remove(method);
        return deepest + 1;
    }

    private Element methodAround() {
        for (Tree each : getCurrentPath()) {
            if (each instanceof MethodTree) {
                return trees.getElement(trees.getPath(unit, each));
            }
        }
        return null;
    }

    private int lines(Tree tree) {
        SourcePositions places = trees.getSourcePositions();
        return (int) (unit.getLineMap().getLineNumber(places.getEndPosition(unit, tree))
            - unit.getLineMap().getLineNumber(places.getStartPosition(unit, tree)) + 1);
    }

    @Override
    public Void scan(Tree tree, Void none) {
        if (tree != null && RULED_OUT.containsKey(tree.getKind())) {
            none(RULED_OUT.get(tree.getKind()) + ": " + tree, true);
        }
        return super.scan(tree, none);
    }

    @Override
    public Void visitClass(ClassTree tree, Void none) {
        String name = tree.getSimpleName().toString();
        classes++;
        none("rule 2: the class " + name + " inside a method", methodAround() != null);
        Set<Modifier> flags = tree.getModifiers().getFlags();
        boolean isOutermost = name.equals("MiddleClaims");
        none("rule 2: " + name + " is not static", !isOutermost && !flags.contains(Modifier.STATIC));
        none("rule 1: " + name + " can be seen from outside",
            !isOutermost && (flags.contains(Modifier.PUBLIC) || flags.contains(Modifier.PROTECTED)));
        int fields = 0;
        for (Tree member : tree.getMembers()) {
            none("rule 5: a static block", member instanceof BlockTree);
            boolean isField = member instanceof VariableTree;
            if (isField && !((VariableTree) member).getModifiers().getFlags().contains(Modifier.STATIC)) {
                fields++;
            }
        }
        atMost("rule 11: fields of " + name, fields, 20);
        return super.visitClass(tree, none);
    }

    @Override
    public Void visitMethod(MethodTree tree, Void none) {
        calls.computeIfAbsent(trees.getElement(getCurrentPath()), any -> new HashSet<>());
        boolean isPublic = tree.getModifiers().getFlags().contains(Modifier.PUBLIC);
        (isPublic ? publicNames : otherNames).add(tree.getName().toString());
        atMost("rule 11: parameters of " + tree.getName(), tree.getParameters().size(), 7);
        if (tree.getBody() != null) {
            atMost("rule 11: lines of " + tree.getName(), lines(tree), 60);
        }
        none("rule 6: " + tree.getName() + " throws", !tree.getThrows().isEmpty());
        none("rule 6: " + tree.getName() + " of an object",
            Set.of("equals", "hashCode", "toString").contains(tree.getName().toString()));
        return super.visitMethod(tree, none);
    }

    @Override
    public Void visitVariable(VariableTree tree, Void none) {
        String type = String.valueOf(tree.getType());
        none("rule 3: " + tree, !USED_TYPES.contains(type));
        Set<Modifier> flags = tree.getModifiers().getFlags();
        if (flags.contains(Modifier.STATIC)) {
            none("rule 5: " + tree, !flags.contains(Modifier.FINAL) || !USED_STATIC_TYPES.contains(type)
                || tree.getInitializer() == null);
        }
        return super.visitVariable(tree, none);
    }

    @Override
    public Void visitMethodInvocation(MethodInvocationTree tree, Void none) {
        ExecutableElement called = (ExecutableElement) trees.getElement(
            trees.getPath(unit, tree.getMethodSelect()));
        Element caller = methodAround();
        boolean isOwn = trees.getTree(called) != null;
        if (isOwn && caller != null) {
            calls.computeIfAbsent(caller, any -> new HashSet<>()).add(called);
        }
        boolean isOfObject = called.getKind() == ElementKind.CONSTRUCTOR;
        none("rule 4: " + tree, !isOwn && !isOfObject
            && !USED_LIBRARY.contains(called.getEnclosingElement().getSimpleName() + "." + called.getSimpleName()));
        return super.visitMethodInvocation(tree, none);
    }

    /** Rule 12 allows more; this program makes its rows in constructors alone. */
    private void dueInConstructor(Tree made) {
        boolean isConstant = false;
        for (Tree each : getCurrentPath()) {
            isConstant |= each instanceof VariableTree
                && ((VariableTree) each).getModifiers().getFlags().contains(Modifier.STATIC);
        }
        Element method = methodAround();
        boolean isInConstructor = method != null && method.getKind() == ElementKind.CONSTRUCTOR;
        none("rule 12: " + made + " outside a constructor", !isConstant && !isInConstructor);
    }

    @Override
    public Void visitNewClass(NewClassTree tree, Void none) {
        none("rule 2: a class without a name", tree.getClassBody() != null);
        dueInConstructor(tree);
        return super.visitNewClass(tree, none);
    }

    @Override
    public Void visitNewArray(NewArrayTree tree, Void none) {
        dueInConstructor(tree);
        return super.visitNewArray(tree, none);
    }

    @Override
    public Void visitForLoop(ForLoopTree tree, Void none) {
        String condition = String.valueOf(tree.getCondition());
        none("rule 9: no end of " + tree, tree.getCondition() == null || condition.equals("true"));
        none("rule 9: no step in " + tree, tree.getUpdate().isEmpty());
        return super.visitForLoop(tree, none);
    }
}
