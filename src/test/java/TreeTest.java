import com.sun.source.tree.BinaryTree;
import com.sun.source.tree.ClassTree;
import com.sun.source.tree.CompilationUnitTree;
import com.sun.source.tree.MethodInvocationTree;
import com.sun.source.tree.MethodTree;
import com.sun.source.tree.NewArrayTree;
import com.sun.source.tree.NewClassTree;
import com.sun.source.tree.Tree;
import com.sun.source.tree.TypeCastTree;
import com.sun.source.tree.VariableTree;
import com.sun.source.util.JavacTask;
import com.sun.source.util.TreePathScanner;
import com.sun.source.util.Trees;
import java.nio.file.Path;
import java.util.EnumSet;
import java.util.HashMap;
import java.util.HashSet;
import java.util.List;
import java.util.Map;
import java.util.Set;
import java.util.TreeSet;
import javax.lang.model.element.Element;
import javax.lang.model.element.ElementKind;
import javax.lang.model.element.Modifier;
import javax.lang.model.type.TypeKind;
import javax.lang.model.type.TypeMirror;
import javax.tools.JavaCompiler;
import javax.tools.StandardJavaFileManager;
import javax.tools.ToolProvider;

/** Rules of LANGUAGE.md that javac's own tree of the program shows; the number of the rule stands ahead of each. */
public final class TreeTest extends TreePathScanner<Void, Void> {
    private static final Checks CHECKS = new Checks();
    private static final Path SOURCE = Path.of("src/main/java/WornSums.java");
    private static final Set<Tree.Kind> FORBIDDEN = EnumSet.of(
            Tree.Kind.THROW, Tree.Kind.TRY, Tree.Kind.CATCH, Tree.Kind.SYNCHRONIZED, Tree.Kind.ASSERT,
            Tree.Kind.LAMBDA_EXPRESSION, Tree.Kind.MEMBER_REFERENCE, Tree.Kind.UNION_TYPE, Tree.Kind.PACKAGE);
    private static final Set<String> LIBRARY = Set.of(
            "java.lang.Object.<init>", "java.lang.String.length", "java.lang.String.charAt", "java.lang.String.isEmpty",
            "java.lang.String.equals", "java.lang.Math.min", "java.lang.Math.max", "java.lang.Math.abs",
            "java.lang.Math.floorMod", "java.lang.Math.floorDiv", "java.util.Arrays.fill", "java.lang.System.arraycopy");
    private static final int DEEPEST = 8;

    private final Trees trees;
    private final Map<Element, Set<Element>> calls = new HashMap<>();
    private final Map<Element, Integer> depths = new HashMap<>();
    private Element method;
    private int nodes = 0;

    private TreeTest(Trees trees) {
        this.trees = trees;
    }

    public static void main(String[] args) throws Exception {
        JavaCompiler compiler = ToolProvider.getSystemJavaCompiler();
        try (StandardJavaFileManager files = compiler.getStandardFileManager(null, null, null)) {
            JavacTask task = (JavacTask) compiler.getTask(null, files, null, List.of("-proc:none"), null,
                    files.getJavaFileObjects(SOURCE));
            Iterable<? extends CompilationUnitTree> units = task.parse();
            task.analyze();
            TreeTest test = new TreeTest(Trees.instance(task));
            for (CompilationUnitTree unit : units) {
                CHECKS.due("1: classes outside of one another", unit.getTypeDecls().size(), 1);
                test.scan(unit, null);
            }
            test.checkDepths();
            CHECKS.holds("the tree is seen", test.nodes > 1000 && test.calls.size() > 50);
        }
        CHECKS.end("TreeTest");
    }

    private Element element() {
        return trees.getElement(getCurrentPath());
    }

    private TypeMirror type() {
        return trees.getTypeMirror(getCurrentPath());
    }

    private static Element classOf(Element element) {
        Element at = element;
        while (at != null && !at.getKind().isClass() && !at.getKind().isInterface()) {
            at = at.getEnclosingElement();
        }
        return at;
    }

    private static boolean isOwn(Element element) {
        return classOf(element).toString().startsWith("WornSums");
    }

    @Override
    public Void scan(Tree tree, Void none) {
        if (tree != null) {
            nodes++;
            CHECKS.holds("2, 6: no " + tree.getKind() + " at " + tree, !FORBIDDEN.contains(tree.getKind()));
        }
        return super.scan(tree, none);
    }

    @Override
    public Void visitClass(ClassTree tree, Void none) {
        Element own = element();
        boolean isFace = own.getEnclosingElement().getKind() == ElementKind.PACKAGE;
        CHECKS.holds("2: " + own + " is static", isFace || own.getModifiers().contains(Modifier.STATIC));
        CHECKS.holds("1: " + own + " is not public", isFace || !own.getModifiers().contains(Modifier.PUBLIC));
        int fields = 0;
        for (Tree member : tree.getMembers()) {
            CHECKS.holds("5: no initialiser block in " + own, member.getKind() != Tree.Kind.BLOCK);
            if (member instanceof VariableTree) {
                fields += ((VariableTree) member).getModifiers().getFlags().contains(Modifier.STATIC) ? 0 : 1;
            }
        }
        CHECKS.holds("11: some twenty fields in " + own + ", found " + fields, fields <= 20);
        return super.visitClass(tree, none);
    }

    @Override
    public Void visitMethod(MethodTree tree, Void none) {
        Element outer = method;
        method = element();
        calls.putIfAbsent(method, new HashSet<>());
        CHECKS.holds("11: seven parameters at most in " + method, tree.getParameters().size() <= 7);
        CHECKS.holds("6: " + method + " tells no exceptions", tree.getThrows().isEmpty());
        super.visitMethod(tree, none);
        method = outer;
        return null;
    }

    @Override
    public Void visitVariable(VariableTree tree, Void none) {
        Element variable = element();
        Set<Modifier> modifiers = variable.getModifiers();
        CHECKS.holds("3: the type of " + tree, isAllowed(variable.asType(), 0));
        if (variable.getKind() == ElementKind.FIELD && modifiers.contains(Modifier.STATIC)) {
            CHECKS.holds("5: final: " + tree, modifiers.contains(Modifier.FINAL));
            CHECKS.holds("5: a constant: " + tree, variable.asType().getKind() != TypeKind.DECLARED
                    || variable.asType().toString().equals("java.lang.String"));
        }
        return super.visitVariable(tree, none);
    }

    /** Numbers, truth values, own classes, String; arrays of them of one dimension, of numbers also of two. */
    private static boolean isAllowed(TypeMirror type, int dimensions) {
        if (type.getKind() == TypeKind.ARRAY) {
            return isAllowed(((javax.lang.model.type.ArrayType) type).getComponentType(), dimensions + 1);
        }
        if (type.getKind().isPrimitive()) {
            return dimensions <= 1 || dimensions == 2 && type.getKind() != TypeKind.BOOLEAN;
        }
        boolean isOwn = type.toString().startsWith("WornSums");
        return dimensions <= 1 && (isOwn || dimensions == 0 && type.toString().equals("java.lang.String"));
    }

    @Override
    public Void visitNewArray(NewArrayTree tree, Void none) {
        CHECKS.holds("3: the type of " + tree, isAllowed(type(), 0));
        return super.visitNewArray(tree, none);
    }

    @Override
    public Void visitNewClass(NewClassTree tree, Void none) {
        CHECKS.holds("2: no class without a name at " + tree, tree.getClassBody() == null);
        CHECKS.holds("4: a class of its own at " + tree, isOwn(element()));
        noteCall(element());
        return super.visitNewClass(tree, none);
    }

    @Override
    public Void visitMethodInvocation(MethodInvocationTree tree, Void none) {
        Element called = element();
        String name = classOf(called) + "." + called.getSimpleName();
        CHECKS.holds("4: " + name + " is in the library that is left", isOwn(called) || LIBRARY.contains(name));
        if (isOwn(called)) {
            noteCall(called);
        }
        return super.visitMethodInvocation(tree, none);
    }

    /** What a field is given at first is called by the constructor of its class. */
    private void noteCall(Element called) {
        if (method != null) {
            calls.get(method).add(called);
            return;
        }
        Element own = classOf(element(getCurrentPath().getParentPath()));
        for (Element member : own == null ? List.<Element>of() : own.getEnclosedElements()) {
            if (member.getKind() == ElementKind.CONSTRUCTOR) {
                calls.computeIfAbsent(member, key -> new HashSet<>()).add(called);
            }
        }
    }

    private Element element(com.sun.source.util.TreePath from) {
        Element found = null;
        for (com.sun.source.util.TreePath at = from; at != null && found == null; at = at.getParentPath()) {
            found = at.getLeaf() instanceof ClassTree ? trees.getElement(at) : null;
        }
        return found;
    }

    @Override
    public Void visitBinary(BinaryTree tree, Void none) {
        boolean joins = tree.getKind() == Tree.Kind.PLUS && type().toString().equals("java.lang.String");
        CHECKS.holds("10: texts are not joined by + at " + tree, !joins);
        return super.visitBinary(tree, none);
    }

    @Override
    public Void visitTypeCast(TypeCastTree tree, Void none) {
        CHECKS.holds("6: a cast of a number: " + tree, type().getKind().isPrimitive());
        return super.visitTypeCast(tree, none);
    }

    private void checkDepths() {
        for (Element called : new HashSet<>(calls.keySet())) {
            int depth = depthOf(called, new TreeSet<>());
            CHECKS.holds("11: " + called + " goes " + depth + " deep", depth <= DEEPEST);
        }
    }

    private int depthOf(Element called, Set<String> open) {
        Integer known = depths.get(called);
        if (known != null) {
            return known;
        }
        String name = called.getEnclosingElement() + "." + called;
        CHECKS.holds("8: no recursion of " + name, open.add(name));
        int depth = 1;
        for (Element next : calls.getOrDefault(called, Set.of())) {
            String nextName = next.getEnclosingElement() + "." + next;
            if (open.contains(nextName)) {
                CHECKS.holds("8: no recursion of " + nextName, false);
            } else {
                depth = Math.max(depth, 1 + depthOf(next, open));
            }
        }
        open.remove(name);
        depths.put(called, depth);
        return depth;
    }
}
