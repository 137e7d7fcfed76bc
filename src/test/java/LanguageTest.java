import com.sun.source.tree.AssertTree;
import com.sun.source.tree.BinaryTree;
import com.sun.source.tree.BlockTree;
import com.sun.source.tree.ClassTree;
import com.sun.source.tree.CompilationUnitTree;
import com.sun.source.tree.IdentifierTree;
import com.sun.source.tree.LambdaExpressionTree;
import com.sun.source.tree.LiteralTree;
import com.sun.source.tree.MemberReferenceTree;
import com.sun.source.tree.MemberSelectTree;
import com.sun.source.tree.MethodTree;
import com.sun.source.tree.NewClassTree;
import com.sun.source.tree.SynchronizedTree;
import com.sun.source.tree.ThrowTree;
import com.sun.source.tree.Tree;
import com.sun.source.tree.TryTree;
import com.sun.source.tree.VariableTree;
import com.sun.source.util.JavacTask;
import com.sun.source.util.TreePathScanner;
import com.sun.source.util.Trees;
import java.io.IOException;
import java.nio.file.Files;
import java.nio.file.Path;
import java.util.HashMap;
import java.util.HashSet;
import java.util.Map;
import java.util.Set;
import javax.lang.model.element.Element;
import javax.lang.model.element.ElementKind;
import javax.lang.model.element.ExecutableElement;
import javax.lang.model.element.Modifier;
import javax.lang.model.element.TypeElement;
import javax.lang.model.type.TypeKind;
import javax.tools.JavaCompiler;
import javax.tools.StandardJavaFileManager;
import javax.tools.ToolProvider;

/** The rules of LANGUAGE.md that can be seen in the compiler's tree of the class. */
final class LanguageTest extends TreePathScanner<Void, Void> {
    private static final Path FILE = Path.of("src/main/java/TravellingPictures.java");
    private static final int MOST_PARAMETERS = 7;
    private static final int MOST_LINES = 60;
    private static final int MOST_CLASSES = 12;
    private static final int MOST_FIELDS = 20;
    private static final int MOST_DEPTH = 8;

    private static final Set<String> EXCEPTIONS = Set.of("IllegalStateException", "IllegalArgumentException",
            "IndexOutOfBoundsException", "ArithmeticException", "UnsupportedOperationException", "NoSuchElementException",
            "RuntimeException");
    private static final Set<String> TYPES = Set.of("String", "StringBuilder", "Integer", "Long", "Math", "ArrayList", "List",
            "Iterator", "Iterable", "Comparable", "System", "Arrays");
    private static final Set<String> FUNCTIONS = Set.of("Integer", "Long", "Math");
    private static final Set<TypeKind> WHOLE = Set.of(TypeKind.INT, TypeKind.LONG);
    private static final Map<String, Set<String>> LIBRARY = Map.of(
            "String", Set.of("length", "charAt", "isEmpty", "equals", "indexOf", "substring", "toCharArray"),
            "StringBuilder", Set.of("append", "charAt", "setCharAt", "setLength", "deleteCharAt", "reverse", "length", "toString"),
            "ArrayList", Set.of("add", "get", "set", "remove", "size", "isEmpty", "clear"),
            "List", Set.of("add", "get", "set", "remove", "size", "isEmpty", "clear", "of"),
            "System", Set.of("arraycopy"),
            "Arrays", Set.of("copyOf", "copyOfRange", "fill"));

    private final CompilationUnitTree unit;
    private final Trees trees;
    private final Set<String> face = new HashSet<>();
    private final Set<String> hidden = new HashSet<>();
    private final Map<Element, Set<Element>> calls = new HashMap<>();
    private Element inside;
    private int classes;

    private LanguageTest(CompilationUnitTree unit, Trees trees) {
        this.unit = unit;
        this.trees = trees;
    }

    public static void main(String[] args) throws IOException {
        JavaCompiler compiler = ToolProvider.getSystemJavaCompiler();
        try (StandardJavaFileManager files = compiler.getStandardFileManager(null, null, null)) {
            JavacTask task = (JavacTask) compiler.getTask(null, files, null, null, null, files.getJavaFileObjects(FILE));
            CompilationUnitTree unit = task.parse().iterator().next();
            task.analyze();
            LanguageTest test = new LanguageTest(unit, Trees.instance(task));
            test.scan(unit, null);
            test.checkWhole();
        }
        Due.end();
    }

    private void checkWhole() throws IOException {
        check(1, "no package line", unit.getPackageName() == null && unit.getTypeDecls().size() == 1);
        for (String name : hidden) {
            check(1, name + " is the name of a public method too", !face.contains(name));
        }
        check(11, classes + " classes", classes <= MOST_CLASSES);
        for (Element method : calls.keySet()) {
            check(11, method + " calls too deep, or itself", depth(method, 1) <= MOST_DEPTH);
        }
        check(4, "the file has only signs up to 127", Files.readString(FILE).chars().allMatch(sign -> sign < 128));
    }

    private int depth(Element method, int open) {
        int deepest = open;
        for (Element called : open > MOST_DEPTH ? Set.<Element>of() : calls.getOrDefault(method, Set.of())) {
            deepest = Math.max(deepest, depth(called, open + 1));
        }
        return deepest;
    }

    private void check(int rule, String what, boolean holds) {
        if (!holds) {
            Due.tell("rule " + rule + " of LANGUAGE.md: " + what);
        }
    }

    private void checkTree(int rule, Tree tree, boolean holds) {
        check(rule, "line " + lineAt(trees.getSourcePositions().getStartPosition(unit, tree)) + ": " + tree, holds);
    }

    private long lineAt(long position) {
        return unit.getLineMap().getLineNumber(position);
    }

    private Element here() {
        return trees.getElement(getCurrentPath());
    }

    private static boolean isOwn(Element element) {
        Element outermost = element;
        while (outermost.getEnclosingElement().getKind() != ElementKind.PACKAGE) {
            outermost = outermost.getEnclosingElement();
        }
        return outermost.getSimpleName().contentEquals("TravellingPictures");
    }

    @Override
    public Void visitClass(ClassTree tree, Void none) {
        classes++;
        boolean outer = getCurrentPath().getParentPath().getLeaf() == unit;
        boolean nested = getCurrentPath().getParentPath().getLeaf() instanceof ClassTree;
        check(2, tree.getSimpleName() + " is a static nested class", outer || nested && here().getModifiers().contains(Modifier.STATIC));
        long fields = tree.getMembers().stream().filter(member -> member instanceof VariableTree field
                && !field.getModifiers().getFlags().contains(Modifier.STATIC)).count();
        check(11, tree.getSimpleName() + " has " + fields + " fields", fields <= MOST_FIELDS);
        for (Tree member : tree.getMembers()) {
            checkTree(5, member, !(member instanceof BlockTree block) || !block.isStatic());
        }
        return super.visitClass(tree, none);
    }

    @Override
    public Void visitVariable(VariableTree tree, Void none) {
        Set<Modifier> modifiers = tree.getModifiers().getFlags();
        checkTree(5, tree, !modifiers.contains(Modifier.STATIC) || modifiers.contains(Modifier.FINAL));
        return super.visitVariable(tree, none);
    }

    @Override
    public Void visitMethod(MethodTree tree, Void none) {
        if (tree.getReturnType() != null) {
            (tree.getModifiers().getFlags().contains(Modifier.PUBLIC) ? face : hidden).add(tree.getName().toString());
        }
        check(11, tree.getName() + " takes too much", tree.getParameters().size() <= MOST_PARAMETERS);
        long lines = lineAt(trees.getSourcePositions().getEndPosition(unit, tree))
                - lineAt(trees.getSourcePositions().getStartPosition(unit, tree)) + 1;
        check(11, tree.getName() + " has " + lines + " lines", lines <= MOST_LINES);
        inside = here();
        calls.put(inside, new HashSet<>());
        super.visitMethod(tree, none);
        inside = null;
        return null;
    }

    @Override
    public Void visitIdentifier(IdentifierTree tree, Void none) {
        checkUse(tree, here());
        return super.visitIdentifier(tree, none);
    }

    @Override
    public Void visitMemberSelect(MemberSelectTree tree, Void none) {
        checkUse(tree, here());
        return super.visitMemberSelect(tree, none);
    }

    /** What a name means decides: own members are free, of the library only what rule 4 lists. */
    private void checkUse(Tree tree, Element used) {
        if (used.getKind() == ElementKind.PACKAGE) {
            return;
        }
        if (used instanceof TypeElement) {
            String name = used.getSimpleName().toString();
            checkTree(4, tree, isOwn(used) || TYPES.contains(name) || EXCEPTIONS.contains(name));
        } else if (used.getKind() == ElementKind.METHOD) {
            checkCall(tree, used);
        } else if (used.getKind().isField() && !tree.toString().endsWith(".length")) {
            checkTree(4, tree, isOwn(used));
        }
    }

    private void checkCall(Tree tree, Element called) {
        if (isOwn(called)) {
            if (inside != null) {
                calls.get(inside).add(called);
            }
            return;
        }
        String type = called.getEnclosingElement().getSimpleName().toString();
        String name = called.getSimpleName().toString();
        boolean listed = FUNCTIONS.contains(type) ? isWholeFunction((ExecutableElement) called)
                : LIBRARY.getOrDefault(type, Set.of()).contains(name);
        checkTree(4, tree, listed);
    }

    private static boolean isWholeFunction(ExecutableElement function) {
        return function.getModifiers().contains(Modifier.STATIC) && WHOLE.contains(function.getReturnType().getKind())
                && function.getParameters().stream().allMatch(taken -> WHOLE.contains(taken.asType().getKind()))
                && !function.getSimpleName().toString().endsWith("Exact");
    }

    @Override
    public Void visitThrow(ThrowTree tree, Void none) {
        boolean written = tree.getExpression() instanceof NewClassTree made && EXCEPTIONS.contains(made.getIdentifier().toString())
                && made.getArguments().size() <= 1 && made.getArguments().stream().allMatch(text -> text instanceof LiteralTree);
        checkTree(6, tree, written && inside != null && inside.getKind() == ElementKind.METHOD);
        return super.visitThrow(tree, none);
    }

    @Override
    public Void visitTry(TryTree tree, Void none) {
        checkTree(6, tree, tree.getFinallyBlock() == null && tree.getResources().isEmpty());
        return super.visitTry(tree, none);
    }

    @Override
    public Void visitSynchronized(SynchronizedTree tree, Void none) {
        checkTree(6, tree, false);
        return super.visitSynchronized(tree, none);
    }

    @Override
    public Void visitAssert(AssertTree tree, Void none) {
        checkTree(6, tree, false);
        return super.visitAssert(tree, none);
    }

    @Override
    public Void visitLambdaExpression(LambdaExpressionTree tree, Void none) {
        checkTree(2, tree, false);
        return super.visitLambdaExpression(tree, none);
    }

    @Override
    public Void visitMemberReference(MemberReferenceTree tree, Void none) {
        checkTree(2, tree, false);
        return super.visitMemberReference(tree, none);
    }

    @Override
    public Void visitBinary(BinaryTree tree, Void none) {
        checkTree(10, tree, !trees.getTypeMirror(getCurrentPath()).toString().equals("java.lang.String"));
        return super.visitBinary(tree, none);
    }
}
