import com.sun.source.tree.BlockTree;
import com.sun.source.tree.ClassTree;
import com.sun.source.tree.CompilationUnitTree;
import com.sun.source.tree.ExpressionTree;
import com.sun.source.tree.MethodInvocationTree;
import com.sun.source.tree.MethodTree;
import com.sun.source.tree.NewArrayTree;
import com.sun.source.tree.Tree;
import com.sun.source.tree.TypeCastTree;
import com.sun.source.tree.VariableTree;
import com.sun.source.util.JavacTask;
import com.sun.source.util.TreePath;
import com.sun.source.util.TreePathScanner;
import com.sun.source.util.Trees;
import java.io.File;
import java.io.IOException;
import java.util.EnumSet;
import java.util.HashMap;
import java.util.HashSet;
import java.util.List;
import java.util.Map;
import java.util.Set;
import java.util.function.Consumer;
import java.util.function.Predicate;
import javax.lang.model.element.Element;
import javax.lang.model.element.ExecutableElement;
import javax.lang.model.element.Modifier;
import javax.lang.model.element.VariableElement;
import javax.lang.model.type.ArrayType;
import javax.lang.model.type.TypeKind;
import javax.lang.model.type.TypeMirror;
import javax.tools.JavaCompiler;
import javax.tools.StandardJavaFileManager;
import javax.tools.ToolProvider;

/** 'Limits on the class', read off the source as the compiler sees it. One test for each item. */
public final class LimitsTest {
    private static final File SOURCE = new File("src/main/java/BitMatrix8.java");
    private static final Set<Tree.Kind> RULED_OUT = EnumSet.of(
        Tree.Kind.THROW, Tree.Kind.TRY, Tree.Kind.CATCH, Tree.Kind.ASSERT, Tree.Kind.SYNCHRONIZED,
        Tree.Kind.INSTANCE_OF);
    private static final Set<Tree.Kind> MAKES_AN_OBJECT = EnumSet.of(
        Tree.Kind.NEW_CLASS, Tree.Kind.LAMBDA_EXPRESSION, Tree.Kind.MEMBER_REFERENCE);

    private static CompilationUnitTree unit;
    private static Trees trees;

    public static void main(String[] args) throws IOException {
        JavaCompiler compiler = ToolProvider.getSystemJavaCompiler();
        StandardJavaFileManager files = compiler.getStandardFileManager(null, null, null);
        JavacTask task = (JavacTask) compiler.getTask(
            null, files, null, List.of("-proc:none"), null, files.getJavaFileObjects(SOURCE));
        unit = task.parse().iterator().next();
        task.analyze();
        trees = Trees.instance(task);
        Checks.sentence("no class but this one is used", () -> none(LimitsTest::usesAnotherClass));
        Checks.sentence("nothing is created inside a method", () -> none(LimitsTest::createsInAMethod));
        Checks.sentence("an array is primitive, one-dimensional and of a constant length",
            () -> none(LimitsTest::isAnotherArray));
        Checks.sentence("no throw, try, catch, assert, synchronized or instanceof",
            () -> none(LimitsTest::isRuledOut));
        Checks.sentence("no cast between object types", () -> none(LimitsTest::castsAnObject));
        Checks.sentence("no float or double", () -> none(LimitsTest::isFloating));
        Checks.sentence("no static field but constants of int or long, and no static initialiser",
            () -> none(LimitsTest::isOtherStatic));
        Checks.sentence("no recursion", LimitsTest::noMethodReachesItself);
        Checks.finish();
    }

    private static void none(Predicate<TreePath> outside) {
        forEachTree(path -> {
            String code = "'" + path.getLeaf() + "'";
            Checks.due(code + " is outside the limits (1 for yes)", outside.test(path) ? 1 : 0, 0);
        });
    }

    private static void forEachTree(Consumer<TreePath> look) {
        new TreePathScanner<Void, Void>() {
            @Override
            public Void scan(Tree tree, Void none) {
                if (tree != null && getCurrentPath() != null) {
                    look.accept(new TreePath(getCurrentPath(), tree));
                }
                return super.scan(tree, none);
            }
        }.scan(new TreePath(unit), null);
    }

    private static boolean usesAnotherClass(TreePath path) {
        Tree tree = path.getLeaf();
        if (!(tree instanceof ExpressionTree)) {
            return tree.getKind() == Tree.Kind.IMPORT;
        }
        // The compiler puts this call into every constructor.
        if (tree.toString().equals("super") || tree.toString().equals("super()")) {
            return false;
        }
        return isAnotherClass(trees.getTypeMirror(path)) || isMethodOfAnotherClass(trees.getElement(path));
    }

    private static boolean isAnotherClass(TypeMirror type) {
        boolean object = type != null && (type.getKind() == TypeKind.DECLARED || type.getKind() == TypeKind.NULL);
        return object && !type.toString().equals("BitMatrix8");
    }

    private static boolean isMethodOfAnotherClass(Element named) {
        return named instanceof ExecutableElement && isAnotherClass(named.getEnclosingElement().asType());
    }

    private static boolean createsInAMethod(TreePath path) {
        if (MAKES_AN_OBJECT.contains(path.getLeaf().getKind())) {
            return true;
        }
        MethodTree method = methodAround(path);
        return path.getLeaf() instanceof NewArrayTree && method != null && method.getReturnType() != null;
    }

    private static MethodTree methodAround(TreePath path) {
        for (Tree tree : path) {
            if (tree instanceof MethodTree) {
                return (MethodTree) tree;
            }
        }
        return null;
    }

    private static boolean isAnotherArray(TreePath path) {
        TypeMirror type = trees.getTypeMirror(path);
        boolean array = type != null && type.getKind() == TypeKind.ARRAY;
        if (array && !((ArrayType) type).getComponentType().getKind().isPrimitive()) {
            return true;
        }
        return path.getLeaf() instanceof NewArrayTree && !hasConstantLength(path);
    }

    private static boolean hasConstantLength(TreePath path) {
        List<? extends ExpressionTree> lengths = ((NewArrayTree) path.getLeaf()).getDimensions();
        if (lengths.size() != 1) {
            return false;
        }
        Element named = trees.getElement(new TreePath(path, lengths.get(0)));
        return lengths.get(0).getKind() == Tree.Kind.INT_LITERAL || isConstant(named);
    }

    private static boolean isConstant(Element field) {
        return field instanceof VariableElement && field.getModifiers().contains(Modifier.STATIC)
            && ((VariableElement) field).getConstantValue() != null;
    }

    private static boolean isRuledOut(TreePath path) {
        Tree tree = path.getLeaf();
        boolean locks = tree instanceof MethodTree
            && ((MethodTree) tree).getModifiers().getFlags().contains(Modifier.SYNCHRONIZED);
        return locks || RULED_OUT.contains(tree.getKind());
    }

    private static boolean castsAnObject(TreePath path) {
        return path.getLeaf() instanceof TypeCastTree && !trees.getTypeMirror(path).getKind().isPrimitive();
    }

    private static boolean isFloating(TreePath path) {
        TypeMirror type = trees.getTypeMirror(path);
        return type != null && (type.getKind() == TypeKind.FLOAT || type.getKind() == TypeKind.DOUBLE);
    }

    private static boolean isOtherStatic(TreePath path) {
        Tree tree = path.getLeaf();
        if (!(path.getParentPath().getLeaf() instanceof ClassTree)) {
            return false;
        }
        if (tree instanceof BlockTree) {
            return ((BlockTree) tree).isStatic();
        }
        Element field = trees.getElement(path);
        TypeKind kind = field == null ? TypeKind.NONE : field.asType().getKind();
        return tree instanceof VariableTree && field.getModifiers().contains(Modifier.STATIC)
            && !(isConstant(field) && (kind == TypeKind.INT || kind == TypeKind.LONG));
    }

    private static void noMethodReachesItself() {
        Map<Element, Set<Element>> called = new HashMap<>();
        forEachTree(path -> {
            if (path.getLeaf() instanceof MethodInvocationTree && methodAround(path) != null) {
                Element caller = trees.getElement(trees.getPath(unit, methodAround(path)));
                called.computeIfAbsent(caller, none -> new HashSet<>()).add(trees.getElement(path));
            }
        });
        for (Element method : called.keySet()) {
            Checks.due(method + " reaches itself (1 for yes)", reachedFrom(method, called).contains(method) ? 1 : 0, 0);
        }
    }

    private static Set<Element> reachedFrom(Element method, Map<Element, Set<Element>> called) {
        Set<Element> reached = new HashSet<>(called.get(method));
        int before = 0;
        while (before != reached.size()) {
            before = reached.size();
            for (Element each : List.copyOf(reached)) {
                reached.addAll(called.getOrDefault(each, Set.of()));
            }
        }
        return reached;
    }
}
