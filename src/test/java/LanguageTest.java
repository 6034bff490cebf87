import com.sun.source.tree.*;
import com.sun.source.util.JavacTask;
import com.sun.source.util.TreePath;
import com.sun.source.util.TreePathScanner;
import com.sun.source.util.Trees;
import java.io.File;
import java.nio.file.Files;
import java.util.HashMap;
import java.util.HashSet;
import java.util.Map;
import java.util.Set;
import java.util.TreeSet;
import java.util.regex.Matcher;
import java.util.regex.Pattern;
import javax.lang.model.element.Element;
import javax.lang.model.element.ElementKind;
import javax.lang.model.element.ExecutableElement;
import javax.lang.model.element.Modifier;
import javax.lang.model.type.TypeKind;
import javax.lang.model.type.TypeMirror;
import javax.tools.JavaCompiler;
import javax.tools.StandardJavaFileManager;
import javax.tools.ToolProvider;

/**
 * The class keeps to the rules of LANGUAGE.md that its syntax tree shows. Where the rules leave room
 * that the class does not use (recursion, objects made by calls, while), the test leaves none: it is to
 * be widened on purpose, not by accident.
 */
public final class LanguageTest extends TreePathScanner<Void, Void> {
    private static final File SOURCE = new File("src/main/java/VouchFlow.java");
    private static final Set<String> TYPES = Set.of("int", "long", "short", "byte", "char", "boolean", "void",
            "int[]", "long[]", "short[]", "byte[]", "char[]", "boolean[]");
    private static final Set<String> LIBRARY = Set.of("java.lang.Integer.bitCount", "java.lang.Math.max", "java.lang.Math.min",
            "java.lang.Math.abs", "java.lang.System.arraycopy", "java.util.Arrays.fill", "java.lang.Object.<init>");
    private static final Set<Tree.Kind> FORBIDDEN = Set.of(Tree.Kind.THROW, Tree.Kind.TRY, Tree.Kind.SYNCHRONIZED,
            Tree.Kind.ASSERT, Tree.Kind.LAMBDA_EXPRESSION, Tree.Kind.MEMBER_REFERENCE, Tree.Kind.WHILE_LOOP,
            Tree.Kind.DO_WHILE_LOOP, Tree.Kind.INSTANCE_OF, Tree.Kind.PACKAGE, Tree.Kind.ANNOTATION);
    private static final int MOST_PARAMETERS = 7, MOST_LINES = 60, MOST_DEPTH = 8, MOST_CLASSES = 12, MOST_FIELDS = 20;

    private final Checks checks = new Checks();
    private final Map<Element, Set<Element>> calls = new HashMap<>();
    private Trees trees;
    private CompilationUnitTree unit;
    private int classes;

    public static void main(String[] args) throws Exception {
        LanguageTest t = new LanguageTest();
        t.signs();
        t.tree();
        t.depth();
        t.checks.end();
    }

    private void signs() throws Exception {
        checks.part("rules 3 and 4");
        String source = Files.readString(SOURCE.toPath());
        checks.holds("signs 1 to 127 alone", source.chars().allMatch(c -> c > 0 && c < 128));
        checks.part("rule 4");
        Matcher imports = Pattern.compile("(?m)^import (.*);$").matcher(source);
        while (imports.find()) {
            checks.holds("import " + imports.group(1), imports.group(1).equals("java.util.Arrays"));
        }
    }

    private void tree() throws Exception {
        JavaCompiler javac = ToolProvider.getSystemJavaCompiler();
        try (StandardJavaFileManager files = javac.getStandardFileManager(null, null, null)) {
            JavacTask task = (JavacTask) javac.getTask(null, files, null, null, null, files.getJavaFileObjects(SOURCE));
            unit = task.parse().iterator().next();
            task.analyze();
            trees = Trees.instance(task);
            scan(new TreePath(unit), null);
        }
        checks.part("rule 11");
        checks.holds("at most twelve classes: " + classes, classes > 0 && classes <= MOST_CLASSES);
    }

    private void holds(String rule, Tree at, boolean holds) {
        checks.part(rule);
        checks.holds("line " + line(trees.getSourcePositions().getStartPosition(unit, at)), holds);
    }

    private long line(long position) {
        return unit.getLineMap().getLineNumber(Math.max(0, position));
    }

    private Element element(Tree tree) {
        return trees.getElement(TreePath.getPath(unit, tree));
    }

    private boolean isOwn(Element e) {
        for (Element one = e; one != null; one = one.getEnclosingElement()) {
            if (one.getSimpleName().contentEquals("VouchFlow")) return true;
        }
        return false;
    }

    private boolean isAllowed(TypeMirror type) {
        return type.getKind() == TypeKind.DECLARED ? type.toString().startsWith("VouchFlow.") : TYPES.contains(type.toString());
    }

    private Tree enclosing(Set<Tree.Kind> kinds) {
        TreePath path = getCurrentPath().getParentPath();
        while (path != null && !kinds.contains(path.getLeaf().getKind())) {
            path = path.getParentPath();
        }
        return path == null ? null : path.getLeaf();
    }

    @Override
    public Void scan(Tree tree, Void none) {
        if (tree != null) {
            holds("rules 1, 2, 6 and 9, no " + tree.getKind(), tree, !FORBIDDEN.contains(tree.getKind()));
        }
        return super.scan(tree, none);
    }

    @Override
    public Void visitClass(ClassTree tree, Void none) {
        classes++;
        Tree outer = getCurrentPath().getParentPath().getLeaf();
        Set<Modifier> modifiers = tree.getModifiers().getFlags();
        holds("rule 2, static classes inside the class", tree, outer.getKind() == Tree.Kind.COMPILATION_UNIT
                || outer.getKind() == Tree.Kind.CLASS && modifiers.contains(Modifier.STATIC) && modifiers.contains(Modifier.PRIVATE));
        int fields = 0;
        for (Tree member : tree.getMembers()) {
            holds("rule 5, no initialiser block", member, member.getKind() != Tree.Kind.BLOCK);
            if (member instanceof VariableTree v && !v.getModifiers().getFlags().contains(Modifier.STATIC)) fields++;
        }
        holds("rule 11, at most twenty fields", tree, fields <= MOST_FIELDS);
        return super.visitClass(tree, none);
    }

    @Override
    public Void visitMethod(MethodTree tree, Void none) {
        long first = line(trees.getSourcePositions().getStartPosition(unit, tree));
        long last = line(trees.getSourcePositions().getEndPosition(unit, tree));
        holds("rule 11, at most seven parameters", tree, tree.getParameters().size() <= MOST_PARAMETERS);
        holds("rule 11, short methods", tree, last - first < MOST_LINES);
        holds("rule 6, no throws", tree, tree.getThrows().isEmpty());
        holds("rule 6, no equals, hashCode or toString", tree, !Set.of("equals", "hashCode", "toString").contains(tree.getName().toString()));
        ExecutableElement e = (ExecutableElement) element(tree);
        holds("rule 3, the type of " + tree.getName(), tree, isAllowed(e.getReturnType()));
        calls.computeIfAbsent(e, k -> new HashSet<>());
        return super.visitMethod(tree, none);
    }

    @Override
    public Void visitVariable(VariableTree tree, Void none) {
        Element e = element(tree);
        holds("rule 3, the type of " + tree.getName(), tree, isAllowed(e.asType()));
        boolean fixed = e.getKind() != ElementKind.FIELD || !e.getModifiers().contains(Modifier.STATIC)
                || e.getModifiers().contains(Modifier.FINAL) && e.asType().getKind().isPrimitive();
        holds("rule 5, static fields are constants", tree, fixed);
        return super.visitVariable(tree, none);
    }

    @Override
    public Void visitMethodInvocation(MethodInvocationTree tree, Void none) {
        Element called = element(tree);
        String name = called.getEnclosingElement() + "." + called.getSimpleName();
        holds("rule 4, " + name, tree, isOwn(called) || LIBRARY.contains(name));
        Tree caller = enclosing(Set.of(Tree.Kind.METHOD, Tree.Kind.CLASS));
        holds("rule 12, no calls outside of methods", tree, caller.getKind() == Tree.Kind.METHOD);
        calls.computeIfAbsent(element(caller), k -> new HashSet<>()).add(called);
        return super.visitMethodInvocation(tree, none);
    }

    @Override
    public Void visitNewClass(NewClassTree tree, Void none) {
        holds("rule 2, no anonymous class", tree, tree.getClassBody() == null);
        madeWithTheObject(tree);
        return super.visitNewClass(tree, none);
    }

    @Override
    public Void visitNewArray(NewArrayTree tree, Void none) {
        madeWithTheObject(tree);
        return super.visitNewArray(tree, none);
    }

    private void madeWithTheObject(Tree tree) {
        Tree where = enclosing(Set.of(Tree.Kind.METHOD, Tree.Kind.CLASS));
        holds("rule 12, made with the object, not by a call", tree, where.getKind() == Tree.Kind.CLASS);
    }

    @Override
    public Void visitBinary(BinaryTree tree, Void none) {
        TypeMirror left = trees.getTypeMirror(new TreePath(getCurrentPath(), tree.getLeftOperand()));
        holds("rule 10, numbers alone are added and compared", tree, left.getKind().isPrimitive());
        if (tree.getKind() == Tree.Kind.DIVIDE || tree.getKind() == Tree.Kind.REMAINDER) {
            holds("rule 7, whole numbers alone are divided", tree, left.getKind() == TypeKind.INT || left.getKind() == TypeKind.LONG);
        }
        return super.visitBinary(tree, none);
    }

    @Override
    public Void visitForLoop(ForLoopTree tree, Void none) {
        boolean counted = tree.getInitializer().size() == 1 && tree.getUpdate().size() == 1 && tree.getCondition() != null;
        holds("rule 9, a counter", tree, counted);
        if (counted && tree.getInitializer().get(0) instanceof VariableTree counter) {
            String name = counter.getName().toString();
            holds("rule 9, the counter grows", tree, tree.getUpdate().get(0).getExpression().toString().equals(name + "++"));
            holds("rule 9, the counter has a bound", tree, tree.getCondition().toString().matches(".*\\b" + name + " <=? .*"));
            new Unchanged(name).scan(new TreePath(getCurrentPath(), tree.getStatement()), null);
        } else {
            holds("rule 9, a counter of the loop's own", tree, false);
        }
        return super.visitForLoop(tree, none);
    }

    /** Nothing in a loop but its own head changes the loop's counter. */
    private final class Unchanged extends TreePathScanner<Void, Void> {
        private final String name;

        Unchanged(String name) {
            this.name = name;
        }

        @Override
        public Void visitAssignment(AssignmentTree tree, Void none) {
            changed(tree, tree.getVariable());
            return super.visitAssignment(tree, none);
        }

        @Override
        public Void visitCompoundAssignment(CompoundAssignmentTree tree, Void none) {
            changed(tree, tree.getVariable());
            return super.visitCompoundAssignment(tree, none);
        }

        @Override
        public Void visitUnary(UnaryTree tree, Void none) {
            boolean changes = tree.getKind().toString().matches("(PRE|POST)FIX_.*");
            if (changes) changed(tree, tree.getExpression());
            return super.visitUnary(tree, none);
        }

        private void changed(Tree tree, Tree variable) {
            holds("rule 9, " + name + " changes in the head alone", tree, !variable.toString().equals(name));
        }
    }

    private void depth() {
        checks.part("rules 8 and 11");
        int deepest = 0;
        for (Element method : calls.keySet()) {
            int depth = depthOf(method, new TreeSet<>());
            checks.holds(method + " calls at most eight deep, and never itself: " + depth, depth <= MOST_DEPTH);
            deepest = Math.max(deepest, depth);
        }
        checks.holds("some call another: " + deepest, deepest > 1);
    }

    private int depthOf(Element method, Set<String> open) {
        String name = method.getEnclosingElement() + "." + method;
        if (!open.add(name)) {
            return MOST_DEPTH + 1;
        }
        int inner = 0;
        for (Element called : calls.getOrDefault(method, Set.of())) {
            inner = Math.max(inner, depthOf(called, open));
        }
        open.remove(name);
        return inner + 1;
    }
}
