import com.sun.source.tree.BinaryTree;
import com.sun.source.tree.ClassTree;
import com.sun.source.tree.CompilationUnitTree;
import com.sun.source.tree.CompoundAssignmentTree;
import com.sun.source.tree.ExpressionTree;
import com.sun.source.tree.IdentifierTree;
import com.sun.source.tree.MemberSelectTree;
import com.sun.source.tree.MethodInvocationTree;
import com.sun.source.tree.MethodTree;
import com.sun.source.tree.NewClassTree;
import com.sun.source.tree.Tree;
import com.sun.source.tree.TypeCastTree;
import com.sun.source.tree.VariableTree;
import com.sun.source.util.JavacTask;
import com.sun.source.util.TreePath;
import com.sun.source.util.TreePathScanner;
import com.sun.source.util.Trees;
import java.io.IOException;
import java.nio.file.Path;
import java.util.ArrayList;
import java.util.HashSet;
import java.util.List;
import java.util.Map;
import java.util.Set;
import java.util.TreeMap;
import java.util.TreeSet;
import javax.lang.model.element.Element;
import javax.lang.model.element.ElementKind;
import javax.lang.model.element.Modifier;
import javax.lang.model.element.VariableElement;
import javax.lang.model.type.TypeMirror;
import javax.tools.JavaCompiler;
import javax.tools.StandardJavaFileManager;
import javax.tools.ToolProvider;

/**
 * Rules of ../shared/LANGUAGE.md that need the source as the compiler understands it: which methods of the library are
 * called (4), what a type is (3), casts and comparisons (6), divisors (7), recursion (8), texts (10), how deep calls go (11).
 */
public final class RulesTest extends TreePathScanner<Void, Void> {
    /** The part of rule 4 for which there is need here. */
    private static final Set<String> LIBRARY = Set.of("String.length", "String.charAt", "String.indexOf",
            "System.arraycopy", "Math.max", "Math.min", "Math.abs", "Integer.bitCount", "Long.bitCount", "Object.<init>");
    /** Divisors that no constant tells: how many HANDS and COWS there are, and a law's own; each is looked at first. */
    private static final Set<String> DIVIDING = Set.of("befall", "ofTwo");
    private static final int DEEPEST = 8;
    /** A law is 9 levels deep at most, a path 25, gates 4: each of these has a guard on that. */
    private static final Set<String> RECURSIVE = Set.of("Reader.sum", "Reader.product", "Reader.one", "Reader.nested",
            "Reader.inside", "Reader.choice", "Reader.either", "Reader.both", "Reader.ask", "Maze.pathsOn", "Maze.lowestCover");

    private final Trees trees;
    private final Map<String, Set<String>> calls = new TreeMap<>();
    private String method = "";

    private RulesTest(Trees trees) {
        this.trees = trees;
    }

    public static void main(String[] args) throws IOException {
        JavaCompiler compiler = ToolProvider.getSystemJavaCompiler();
        try (StandardJavaFileManager files = compiler.getStandardFileManager(null, null, null)) {
            JavacTask task = (JavacTask) compiler.getTask(null, files, null, List.of("-proc:none"), null,
                    files.getJavaFileObjects(Path.of(args.length > 0 ? args[0] : "src/main/java/ThumbHedges.java")));
            RulesTest rules = new RulesTest(Trees.instance(task));
            Iterable<? extends CompilationUnitTree> units = task.parse();
            task.analyze();
            rules.scan(units, null);
            rules.callsGoDeep();
        }
        Check.end("RulesTest");
    }

    private void rule(int number, Tree at, String what, boolean kept) {
        Check.due("rule " + number + ", in " + method + ": " + what + ": " + at, kept, true);
    }

    private TypeMirror type(Tree tree) {
        return trees.getTypeMirror(new TreePath(getCurrentPath(), tree));
    }

    private boolean isText(Tree tree) {
        return type(tree).toString().equals("java.lang.String");
    }

    private static boolean isOwn(Element element) {
        Element at = element;
        while (at.getEnclosingElement() != null && at.getEnclosingElement().getKind() != ElementKind.PACKAGE) {
            at = at.getEnclosingElement();
        }
        return at.getSimpleName().contentEquals("ThumbHedges");
    }

    private static String nameOf(Element method) {
        return method.getEnclosingElement().getSimpleName() + "." + method.getSimpleName();
    }

    @Override
    public Void visitClass(ClassTree tree, Void none) {
        boolean outermost = tree.getSimpleName().contentEquals("ThumbHedges");
        boolean isStatic = tree.getModifiers().getFlags().contains(Modifier.STATIC);
        rule(2, tree.getModifiers(), "static classes alone, " + tree.getSimpleName(), outermost || isStatic);
        return super.visitClass(tree, none);
    }

    @Override
    public Void visitMethod(MethodTree tree, Void none) {
        String before = method;
        method = nameOf(trees.getElement(getCurrentPath()));
        calls.computeIfAbsent(method, m -> new TreeSet<>());
        super.visitMethod(tree, none);
        method = before;
        return null;
    }

    @Override
    public Void visitVariable(VariableTree tree, Void none) {
        String type = trees.getElement(getCurrentPath()).asType().toString();
        String bare = type.replace("[]", "");
        boolean own = bare.startsWith("ThumbHedges");
        rule(3, tree, "its type", own || Set.of("int", "long", "boolean", "char", "java.lang.String").contains(bare));
        rule(3, tree, "one dimension", type.indexOf("[]") == type.lastIndexOf("[]"));
        return super.visitVariable(tree, none);
    }

    @Override
    public Void visitMethodInvocation(MethodInvocationTree tree, Void none) {
        Element called = trees.getElement(getCurrentPath());
        String name = nameOf(called);
        rule(4, tree, "calls what the rule has", isOwn(called) || LIBRARY.contains(name));
        calls.computeIfAbsent(method, m -> new TreeSet<>()).add(name);
        return super.visitMethodInvocation(tree, none);
    }

    @Override
    public Void visitNewClass(NewClassTree tree, Void none) {
        rule(4, tree, "makes its own alone", isOwn(trees.getElement(getCurrentPath())) && tree.getClassBody() == null);
        return super.visitNewClass(tree, none);
    }

    @Override
    public Void visitTypeCast(TypeCastTree tree, Void none) {
        rule(6, tree, "casts of numbers alone", type(tree.getType()).getKind().isPrimitive());
        return super.visitTypeCast(tree, none);
    }

    @Override
    public Void visitBinary(BinaryTree tree, Void none) {
        Tree.Kind kind = tree.getKind();
        boolean text = isText(tree.getLeftOperand()) || isText(tree.getRightOperand());
        rule(10, tree, "joins no texts", kind != Tree.Kind.PLUS || !text);
        rule(6, tree, "compares no texts", kind != Tree.Kind.EQUAL_TO && kind != Tree.Kind.NOT_EQUAL_TO || !text);
        if (kind == Tree.Kind.DIVIDE || kind == Tree.Kind.REMAINDER) {
            divides(tree, tree.getRightOperand());
        }
        return super.visitBinary(tree, none);
    }

    @Override
    public Void visitCompoundAssignment(CompoundAssignmentTree tree, Void none) {
        rule(10, tree, "joins no texts", !isText(tree.getVariable()));
        if (tree.getKind() == Tree.Kind.DIVIDE_ASSIGNMENT || tree.getKind() == Tree.Kind.REMAINDER_ASSIGNMENT) {
            divides(tree, tree.getExpression());
        }
        return super.visitCompoundAssignment(tree, none);
    }

    private void divides(Tree tree, ExpressionTree divisor) {
        boolean constant = new Constant(trees).scan(new TreePath(getCurrentPath(), divisor), null) == null;
        String simple = method.substring(method.indexOf('.') + 1);
        rule(7, tree, "a divisor that is constant, or looked at first", constant || DIVIDING.contains(simple));
    }

    /** Answers null for what is made of literals and constants alone. */
    private static final class Constant extends TreePathScanner<Boolean, Void> {
        private final Trees trees;

        Constant(Trees trees) {
            this.trees = trees;
        }

        @Override
        public Boolean reduce(Boolean a, Boolean b) {
            return a == null ? b : a;
        }

        private Boolean named() {
            boolean told = trees.getElement(getCurrentPath()) instanceof VariableElement v && v.getConstantValue() != null;
            return told ? null : Boolean.TRUE;
        }

        @Override
        public Boolean visitIdentifier(IdentifierTree tree, Void none) {
            return named();
        }

        @Override
        public Boolean visitMemberSelect(MemberSelectTree tree, Void none) {
            return named();
        }

        @Override
        public Boolean visitMethodInvocation(MethodInvocationTree tree, Void none) {
            return Boolean.TRUE;
        }
    }

    /** Methods that call one another count once, as a level does that goes through several of them. */
    private void callsGoDeep() {
        for (String from : new ArrayList<>(calls.keySet())) {
            Check.due("rule 8: " + from + " comes to itself", reached(from).contains(from), RECURSIVE.contains(from));
            int deep = depth(from, new HashSet<>());
            Check.due("rule 11: calls from " + from + " go " + deep + " deep", deep <= DEEPEST, true);
        }
    }

    private Set<String> reached(String from) {
        Set<String> all = new TreeSet<>();
        List<String> left = new ArrayList<>(calls.getOrDefault(from, Set.of()));
        while (!left.isEmpty()) {
            String next = left.remove(left.size() - 1);
            if (all.add(next)) {
                left.addAll(calls.getOrDefault(next, Set.of()));
            }
        }
        return all;
    }

    /** The method, and all that it calls and that call it. */
    private Set<String> circle(String from) {
        Set<String> circle = new TreeSet<>(Set.of(from));
        for (String to : reached(from)) {
            if (reached(to).contains(from)) {
                circle.add(to);
            }
        }
        return circle;
    }

    private int depth(String from, Set<String> above) {
        Set<String> circle = circle(from);
        int deepest = 0;
        for (String one : circle) {
            for (String to : calls.getOrDefault(one, Set.of())) {
                if (!circle.contains(to) && above.add(to)) {
                    deepest = Math.max(deepest, depth(to, above));
                    above.remove(to);
                }
            }
        }
        return deepest + 1;
    }
}
