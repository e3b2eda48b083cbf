import com.sun.source.tree.*;
import com.sun.source.util.*;
import java.nio.file.Path;
import java.util.*;
import javax.lang.model.element.*;
import javax.tools.*;

/** Reads RipePromises.java and tells what breaks a rule of LANGUAGE.md that can be seen in its tree: java RulesTest FILE. */
public final class RulesTest extends TreePathScanner<Void, Void> {
    private static final Set<Tree.Kind> BANNED = EnumSet.of(Tree.Kind.THROW, Tree.Kind.TRY, Tree.Kind.CATCH, Tree.Kind.SYNCHRONIZED, Tree.Kind.ASSERT,
        Tree.Kind.LAMBDA_EXPRESSION, Tree.Kind.MEMBER_REFERENCE, Tree.Kind.IMPORT, Tree.Kind.PACKAGE, Tree.Kind.ANNOTATION, Tree.Kind.STRING_LITERAL);
    private static final String FACE = "feed land fault told far keeper promise fell go day keep takeDown swap drift undo plan clash still hands "
        + "calendar busiest lives share let write judge tear seed image goBack";
    private static final int MOST_LINES = 60, MOST_PARAMETERS = 7, MOST_DEPTH = 8, MOST_CLASSES = 12, MOST_FIELDS = 20;

    private final CompilationUnitTree unit;
    private final Trees trees;
    private final Map<Element, Set<Element>> calls = new LinkedHashMap<>();
    private final Map<Element, Integer> depths = new HashMap<>();
    private final Set<Element> recursive = new HashSet<>();
    private int broken, looked, classes;
    private Element method;
    private String methodText = "";

    private RulesTest(CompilationUnitTree unit, Trees trees) {
        this.unit = unit;
        this.trees = trees;
    }

    private void rule(boolean held, int number, String what, Tree where) {
        looked++;
        if (!held) {
            broken++;
            System.out.println("rule " + number + ": " + what + " in line " + line(where, false));
        }
    }

    private long line(Tree tree, boolean end) {
        SourcePositions all = trees.getSourcePositions();
        return unit.getLineMap().getLineNumber(end ? all.getEndPosition(unit, tree) : all.getStartPosition(unit, tree));
    }

    private boolean inOuter() {
        return getCurrentPath().getParentPath().getParentPath() != null && getCurrentPath().getParentPath().getParentPath().getLeaf() == unit;
    }

    @Override
    public Void scan(Tree tree, Void none) {
        if (tree != null) {
            rule(!BANNED.contains(tree.getKind()), 6, "a " + tree.getKind(), tree);
        }
        return super.scan(tree, none);
    }

    @Override
    public Void visitClass(ClassTree tree, Void none) {
        classes++;
        Set<Modifier> marks = tree.getModifiers().getFlags();
        boolean outer = getCurrentPath().getParentPath().getLeaf() == unit;
        rule(getCurrentPath().getParentPath().getLeaf().getKind() == Tree.Kind.CLASS || outer, 2, "a class in a method", tree);
        rule(outer ? marks.contains(Modifier.PUBLIC) && marks.contains(Modifier.FINAL) : marks.contains(Modifier.STATIC) && !marks.contains(Modifier.PUBLIC), 1, "the marks of a class", tree);
        int fields = 0;
        for (Tree member : tree.getMembers()) {
            if (member instanceof VariableTree v) {
                Set<Modifier> m = v.getModifiers().getFlags();
                rule(!m.contains(Modifier.STATIC) || m.contains(Modifier.FINAL), 5, "a static field that is not final", v);
                rule(!outer || m.contains(Modifier.PRIVATE) || m.contains(Modifier.STATIC), 1, "a field to be seen", v);
                fields += m.contains(Modifier.STATIC) ? 0 : 1;
            }
        }
        rule(fields <= MOST_FIELDS, 11, fields + " fields", tree);
        return super.visitClass(tree, none);
    }

    @Override
    public Void visitMethod(MethodTree tree, Void none) {
        String name = tree.getName().toString();
        Set<Modifier> marks = tree.getModifiers().getFlags();
        boolean face = Arrays.asList(FACE.split(" ")).contains(name) || inOuter() && name.equals("<init>");
        rule(face == marks.contains(Modifier.PUBLIC) && marks.contains(Modifier.PUBLIC) != marks.contains(Modifier.PRIVATE), 1, "the marks of " + name, tree);
        rule(tree.getParameters().size() <= MOST_PARAMETERS, 11, "the parameters of " + name, tree);
        rule(line(tree, true) - line(tree, false) < MOST_LINES, 11, "the length of " + name, tree);
        method = trees.getElement(getCurrentPath());
        methodText = tree.toString();
        calls.put(method, new LinkedHashSet<>());
        super.visitMethod(tree, none);
        method = null;
        return null;
    }

    @Override
    public Void visitMethodInvocation(MethodInvocationTree tree, Void none) {
        Element called = trees.getElement(new TreePath(getCurrentPath(), tree.getMethodSelect()));
        note(called, tree);
        return super.visitMethodInvocation(tree, none);
    }

    @Override
    public Void visitNewClass(NewClassTree tree, Void none) {
        rule(tree.getClassBody() == null, 2, "an anonymous class", tree);
        note(trees.getElement(getCurrentPath()), tree);
        return super.visitNewClass(tree, none);
    }

    private void note(Element called, Tree tree) {
        String owner = called.getEnclosingElement().toString();
        boolean own = owner.startsWith("RipePromises");
        rule(own || owner.equals("java.lang.Math") || owner.equals("java.lang.Integer") || owner.equals("java.lang.Object"), 4, "a call of " + owner, tree);
        rule(!called.getSimpleName().toString().endsWith("Exact"), 4, "a call of " + called, tree);
        if (method != null && own) {
            calls.get(method).add(called);
        }
    }

    /** An index has to be compared with the length of the very array in the same method. */
    @Override
    public Void visitArrayAccess(ArrayAccessTree tree, Void none) {
        String i = tree.getIndex().toString();
        String row = tree.getExpression().toString();
        rule(methodText.contains(i + " < " + row + ".length") || methodText.contains(i + " >= " + row + ".length"), 7, "an index not looked at: " + tree, tree);
        return super.visitArrayAccess(tree, none);
    }

    /** A divisor is a constant, or is compared with 0 in the same method. */
    @Override
    public Void visitBinary(BinaryTree tree, Void none) {
        if (tree.getKind() == Tree.Kind.DIVIDE || tree.getKind() == Tree.Kind.REMAINDER) {
            String by = tree.getRightOperand().toString();
            boolean constant = by.matches("[0-9]+|[A-Z_]+");
            rule(constant || methodText.contains(by + " <= 0") || methodText.contains(by + " > 0"), 7, "a divisor not looked at: " + tree, tree);
        }
        return super.visitBinary(tree, none);
    }

    private int depthOf(Element one, Deque<Element> open) {
        if (open.contains(one)) {
            recursive.add(one);
            return 0;
        }
        Integer known = depths.get(one);
        if (known != null) {
            return known;
        }
        open.push(one);
        int deepest = 0;
        for (Element called : calls.getOrDefault(one, Set.of())) {
            deepest = Math.max(deepest, depthOf(called, open));
        }
        open.pop();
        depths.put(one, deepest + 1);
        return deepest + 1;
    }

    private void lookAtCalls(Tree where) {
        for (Element one : calls.keySet()) {
            int depth = depthOf(one, new ArrayDeque<>());
            rule(depth <= MOST_DEPTH, 11, one + " goes " + depth + " deep", where);
        }
        for (Element one : recursive) {
            boolean guarded = false;
            for (VariableElement v : ((ExecutableElement) one).getParameters()) {
                guarded |= v.getSimpleName().contentEquals("depth");
            }
            rule(guarded && one.getModifiers().contains(Modifier.STATIC), 8, one + " calls itself", where);
        }
        rule(classes <= MOST_CLASSES, 11, classes + " classes", where);
    }

    public static void main(String[] args) throws Exception {
        JavaCompiler compiler = ToolProvider.getSystemJavaCompiler();
        try (StandardJavaFileManager files = compiler.getStandardFileManager(null, null, null)) {
            String file = args.length > 0 ? args[0] : "src/main/java/RipePromises.java";
            JavacTask task = (JavacTask) compiler.getTask(null, files, null, List.of("-proc:none"), null, files.getJavaFileObjects(Path.of(file)));
            CompilationUnitTree unit = task.parse().iterator().next();
            task.analyze();
            RulesTest test = new RulesTest(unit, Trees.instance(task));
            test.scan(new TreePath(unit), null);
            test.lookAtCalls(unit);
            System.out.println("RulesTest: " + (test.looked - test.broken) + " passed, " + test.broken + " failed; deepest call " + Collections.max(test.depths.values()));
            if (test.broken > 0) {
                System.exit(1);
            }
        }
    }
}
