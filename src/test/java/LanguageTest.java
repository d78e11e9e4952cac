import com.sun.source.tree.BinaryTree;
import com.sun.source.tree.BlockTree;
import com.sun.source.tree.ClassTree;
import com.sun.source.tree.CompilationUnitTree;
import com.sun.source.tree.CompoundAssignmentTree;
import com.sun.source.tree.DoWhileLoopTree;
import com.sun.source.tree.ForLoopTree;
import com.sun.source.tree.MethodInvocationTree;
import com.sun.source.tree.MethodTree;
import com.sun.source.tree.NewArrayTree;
import com.sun.source.tree.NewClassTree;
import com.sun.source.tree.Tree;
import com.sun.source.tree.TypeCastTree;
import com.sun.source.tree.VariableTree;
import com.sun.source.tree.WhileLoopTree;
import com.sun.source.util.JavacTask;
import com.sun.source.util.TreePath;
import com.sun.source.util.TreePathScanner;
import com.sun.source.util.Trees;
import java.io.File;
import java.util.HashMap;
import java.util.HashSet;
import java.util.List;
import java.util.Map;
import java.util.Set;
import java.util.TreeSet;
import javax.lang.model.element.Element;
import javax.lang.model.element.ElementKind;
import javax.lang.model.element.Modifier;
import javax.lang.model.type.TypeMirror;
import javax.tools.JavaCompiler;
import javax.tools.StandardJavaFileManager;
import javax.tools.ToolProvider;

/** The rules of LANGUAGE.md that can be seen in the source, as the compiler reads it. */
public final class LanguageTest extends TreePathScanner<Void, Void> {
    private static final String SOURCE = "src/main/java/FunctionRows.java";
    private static final int MOST_PARAMETERS = 7;
    private static final int MOST_LINES = 60;
    private static final int MOST_DEEP = 8;
    private static final int MOST_CLASSES = 12;
    private static final int MOST_FIELDS = 20;
    // Of what rule 4 lists, that which the class uses; a further one is looked up there before it comes here.
    private static final Set<String> LIBRARY = Set.of("java.lang.Math.max", "java.lang.Math.min", "java.lang.Math.abs",
        "java.lang.String.length", "java.lang.String.charAt");
    private static final Set<String> TYPES = Set.of("int", "long", "byte", "char", "boolean", "int[]", "long[]",
        "byte[]", "char[]", "java.lang.String");
    private static final Set<String> CONSTANTS = Set.of("int", "long", "boolean", "char", "java.lang.String", "int[]",
        "long[]", "byte[]", "char[]");
    private static final Set<Tree.Kind> REFUSED = Set.of(Tree.Kind.THROW, Tree.Kind.TRY, Tree.Kind.SYNCHRONIZED,
        Tree.Kind.ASSERT, Tree.Kind.LAMBDA_EXPRESSION, Tree.Kind.MEMBER_REFERENCE, Tree.Kind.IMPORT,
        Tree.Kind.PACKAGE, Tree.Kind.ANNOTATION);
    private static final Set<String> UNNAMED = Set.of("equals", "hashCode", "toString");

    private final CompilationUnitTree unit;
    private final Trees trees;
    private final Set<String> face = new TreeSet<>();
    private final Map<Element, Set<Element>> calls = new HashMap<>();
    private int classes;

    private LanguageTest(CompilationUnitTree unit, Trees trees) {
        this.unit = unit;
        this.trees = trees;
    }

    public static void main(String[] args) throws Exception {
        JavaCompiler compiler = ToolProvider.getSystemJavaCompiler();
        try (StandardJavaFileManager files = compiler.getStandardFileManager(null, null, null)) {
            JavacTask task = (JavacTask) compiler.getTask(null, files, null, List.of("-proc:none"), null,
                files.getJavaFileObjects(new File(SOURCE)));
            CompilationUnitTree unit = task.parse().iterator().next();
            task.analyze();
            LanguageTest test = new LanguageTest(unit, Trees.instance(task));
            test.findFace();
            test.scan(unit, null);
            Check.sentence("Rule 11", "the file has at most some twelve classes");
            holds("so few classes", test.classes <= MOST_CLASSES);
            test.callsEnd();
        }
        Check.end();
    }

    private static void holds(String what, boolean so) {
        Check.due(what, so ? "so" : "not so", "so");
    }

    private String place(Tree tree) {
        long start = trees.getSourcePositions().getStartPosition(unit, tree);
        return "line " + unit.getLineMap().getLineNumber(start);
    }

    private void findFace() {
        Check.sentence("Rule 1", "The face: the class of the document, public and final");
        holds("one class in the file", unit.getTypeDecls().size() == 1);
        for (Tree member : ((ClassTree) unit.getTypeDecls().get(0)).getMembers()) {
            if (member instanceof MethodTree m && m.getModifiers().getFlags().contains(Modifier.PUBLIC)) {
                face.add(m.getName().toString());
            }
        }
    }

    @Override
    public Void scan(Tree tree, Void none) {
        if (tree != null && REFUSED.contains(tree.getKind())) {
            Check.sentence("Rules 2, 4 and 6", "No throw, try, catch, synchronized, assert; no lambda");
            holds(place(tree) + ", no " + tree.getKind(), false);
        }
        return super.scan(tree, none);
    }

    @Override
    public Void visitClass(ClassTree tree, Void none) {
        classes++;
        Set<Modifier> flags = tree.getModifiers().getFlags();
        boolean inside = getCurrentPath().getParentPath().getLeaf() instanceof ClassTree;
        boolean outermost = tree == unit.getTypeDecls().get(0);
        Check.sentence("Rule 2", "No inner class that isn't static, no local or anonymous class");
        holds(place(tree) + ", the class inside", outermost || inside && flags.contains(Modifier.STATIC)
            && !flags.contains(Modifier.PUBLIC) && !flags.contains(Modifier.PROTECTED));
        Check.sentence("Rule 12", "A constructor calls no method that another class could override");
        holds(place(tree) + ", final", flags.contains(Modifier.FINAL));
        int fields = 0;
        for (Tree member : tree.getMembers()) {
            fields += member instanceof VariableTree v && !isStatic(v) ? 1 : 0;
            Check.sentence("Rule 5", "no static initialiser block");
            holds(place(member) + ", no block", !(member instanceof BlockTree));
        }
        Check.sentence("Rule 11", "a class some twenty fields beside its constants");
        holds(place(tree) + ", so few fields", fields <= MOST_FIELDS);
        return super.visitClass(tree, none);
    }

    private static boolean isStatic(VariableTree tree) {
        return tree.getModifiers().getFlags().contains(Modifier.STATIC);
    }

    @Override
    public Void visitVariable(VariableTree tree, Void none) {
        TypeMirror type = trees.getTypeMirror(getCurrentPath());
        if (isStatic(tree)) {
            Check.sentence("Rule 5", "Static fields are final: constants, and arrays written out in their initialiser");
            holds(place(tree) + ", final", tree.getModifiers().getFlags().contains(Modifier.FINAL));
            holds(place(tree) + ", a constant's type", CONSTANTS.contains(type.toString()));
            holds(place(tree) + ", with an initialiser", tree.getInitializer() != null);
        }
        isAllowed(tree, type);
        return super.visitVariable(tree, none);
    }

    private void isAllowed(Tree tree, TypeMirror type) {
        Check.sentence("Rule 3", "Types");
        String name = type.toString();
        holds(place(tree) + ", the type " + name, TYPES.contains(name) || name.equals("void")
            || name.matches("FunctionRows\\.\\w+(\\[\\])?"));
    }

    @Override
    public Void visitMethod(MethodTree tree, Void none) {
        Set<Modifier> flags = tree.getModifiers().getFlags();
        String name = tree.getName().toString();
        boolean ofFace = flags.contains(Modifier.PUBLIC);
        Check.sentence("Rule 1", "No private method bears the name of a public one.");
        holds(name, ofFace || name.equals("<init>") || !face.contains(name));
        Check.sentence("Rule 6", "No equals, hashCode or toString of your own objects or records");
        holds(name, !UNNAMED.contains(name));
        Check.sentence("Rule 11", "A method takes at most seven parameters. Methods stay short (some sixty lines)");
        holds(name + ", its parameters", tree.getParameters().size() <= MOST_PARAMETERS);
        long first = trees.getSourcePositions().getStartPosition(unit, tree);
        long last = trees.getSourcePositions().getEndPosition(unit, tree);
        holds(name + ", its lines",
            unit.getLineMap().getLineNumber(last) - unit.getLineMap().getLineNumber(first) < MOST_LINES);
        if (tree.getReturnType() != null) {
            isAllowed(tree, trees.getTypeMirror(new TreePath(getCurrentPath(), tree.getReturnType())));
        }
        calls.computeIfAbsent(trees.getElement(getCurrentPath()), made -> new HashSet<>());
        return super.visitMethod(tree, none);
    }

    @Override
    public Void visitMethodInvocation(MethodInvocationTree tree, Void none) {
        Element called = trees.getElement(getCurrentPath());
        Element owner = called.getEnclosingElement();
        // What stands in a constructor of each class, unwritten: the call of the one above it.
        if (called.getKind() != ElementKind.CONSTRUCTOR) {
            boolean own = owner.toString().startsWith("FunctionRows");
            if (!own) {
                Check.sentence("Rule 4", "The library: only what stands here.");
                holds(place(tree) + ", " + owner + "." + called.getSimpleName(),
                    LIBRARY.contains(owner + "." + called.getSimpleName()));
            }
            calls.computeIfAbsent(enclosing(), made -> new HashSet<>()).add(called);
        }
        return super.visitMethodInvocation(tree, none);
    }

    private Element enclosing() {
        TreePath path = getCurrentPath();
        while (!(path.getLeaf() instanceof MethodTree) && !(path.getLeaf() instanceof ClassTree)) {
            path = path.getParentPath();
        }
        return trees.getElement(path);
    }

    @Override
    public Void visitNewClass(NewClassTree tree, Void none) {
        Check.sentence("Rule 2", "no local or anonymous class");
        holds(place(tree) + ", a class with a name", tree.getClassBody() == null);
        isMadeOnce(tree);
        return super.visitNewClass(tree, none);
    }

    @Override
    public Void visitNewArray(NewArrayTree tree, Void none) {
        isMadeOnce(tree);
        return super.visitNewArray(tree, none);
    }

    private void isMadeOnce(Tree tree) {
        Check.sentence("README.md", "All room is made in the constructor.");
        ElementKind kind = enclosing().getKind();
        holds(place(tree), kind == ElementKind.CONSTRUCTOR || kind == ElementKind.CLASS);
    }

    @Override
    public Void visitTypeCast(TypeCastTree tree, Void none) {
        Check.sentence("Rule 6", "a cast only behind the test that makes it safe");
        holds(place(tree) + ", of a number", trees.getTypeMirror(getCurrentPath()).getKind().isPrimitive());
        return super.visitTypeCast(tree, none);
    }

    @Override
    public Void visitBinary(BinaryTree tree, Void none) {
        String left = typeOf(tree.getLeftOperand());
        String right = typeOf(tree.getRightOperand());
        Check.sentence("Rules 6 and 10", "never between two Strings; joining texts by StringBuilder (not by +)");
        holds(place(tree) + ", no text", !left.equals("java.lang.String") && !right.equals("java.lang.String"));
        return super.visitBinary(tree, none);
    }

    @Override
    public Void visitCompoundAssignment(CompoundAssignmentTree tree, Void none) {
        Check.sentence("Rule 10", "joining texts by StringBuilder (not by +)");
        holds(place(tree) + ", no text", !typeOf(tree.getVariable()).equals("java.lang.String"));
        return super.visitCompoundAssignment(tree, none);
    }

    private String typeOf(Tree tree) {
        return String.valueOf(trees.getTypeMirror(new TreePath(getCurrentPath(), tree)));
    }

    @Override
    public Void visitForLoop(ForLoopTree tree, Void none) {
        Check.sentence("Rule 9", "Every loop has an end that can be seen from its own lines");
        boolean counts = tree.getInitializer().size() == 1 && tree.getUpdate().size() == 1;
        holds(place(tree) + ", a counter", counts);
        if (counts && tree.getInitializer().get(0) instanceof VariableTree counter) {
            String name = counter.getName().toString();
            String condition = String.valueOf(tree.getCondition());
            holds(place(tree) + ", a bound", condition.matches(".*\\b" + name + " (<|<=|>=) .*"));
            holds(place(tree) + ", a step", tree.getUpdate().get(0).toString().matches(name + "(\\+\\+|--);?"));
        } else {
            holds(place(tree) + ", a counter of its own", false);
        }
        return super.visitForLoop(tree, none);
    }

    @Override
    public Void visitWhileLoop(WhileLoopTree tree, Void none) {
        Check.sentence("Rule 9", "a counter against a bound");
        holds(place(tree) + ", a loop with a counter", false);
        return super.visitWhileLoop(tree, none);
    }

    @Override
    public Void visitDoWhileLoop(DoWhileLoopTree tree, Void none) {
        Check.sentence("Rule 9", "a counter against a bound");
        holds(place(tree) + ", a loop with a counter", false);
        return super.visitDoWhileLoop(tree, none);
    }

    /** Each round takes the calls one deeper; without recursion they end. */
    private void callsEnd() {
        Check.sentence("Rules 8 and 11", "calls that are no recursion go at most eight deep");
        Set<Element> open = new HashSet<>(calls.keySet());
        int deep = 0;
        for (; deep <= MOST_DEEP && !open.isEmpty(); deep++) {
            Set<Element> deeper = new HashSet<>();
            open.forEach(method -> deeper.addAll(calls.getOrDefault(method, Set.of())));
            open = deeper;
        }
        holds("the calls that stand open at once, " + deep, deep <= MOST_DEEP);
    }
}
