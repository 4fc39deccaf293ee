import com.sun.source.tree.BinaryTree;
import com.sun.source.tree.ClassTree;
import com.sun.source.tree.CompilationUnitTree;
import com.sun.source.tree.LiteralTree;
import com.sun.source.tree.MethodInvocationTree;
import com.sun.source.tree.MethodTree;
import com.sun.source.tree.NewArrayTree;
import com.sun.source.tree.NewClassTree;
import com.sun.source.tree.Tree;
import com.sun.source.tree.TypeCastTree;
import com.sun.source.tree.VariableTree;
import com.sun.source.util.JavacTask;
import com.sun.source.util.TreePath;
import com.sun.source.util.TreePathScanner;
import com.sun.source.util.Trees;
import java.nio.file.Path;
import java.util.HashMap;
import java.util.List;
import java.util.Map;
import java.util.Set;
import java.util.TreeSet;
import javax.lang.model.element.Element;
import javax.lang.model.element.ElementKind;
import javax.lang.model.element.ExecutableElement;
import javax.lang.model.element.Modifier;
import javax.lang.model.element.VariableElement;
import javax.tools.JavaCompiler;
import javax.tools.ToolProvider;

/** The rules of LANGUAGE.md, held against the class as javac reads it. */
public final class RulesTest extends TreePathScanner<Void, Void> {
    private static final Check check = new Check("RulesTest");
    private static final Set<Tree.Kind> RULED_OUT = Set.of(Tree.Kind.THROW, Tree.Kind.TRY, Tree.Kind.CATCH,
        Tree.Kind.SYNCHRONIZED, Tree.Kind.ASSERT, Tree.Kind.LAMBDA_EXPRESSION, Tree.Kind.MEMBER_REFERENCE,
        Tree.Kind.IMPORT, Tree.Kind.PACKAGE, Tree.Kind.NULL_LITERAL, Tree.Kind.DOUBLE_LITERAL, Tree.Kind.FLOAT_LITERAL,
        Tree.Kind.ENUM, Tree.Kind.RECORD, Tree.Kind.INTERFACE, Tree.Kind.INSTANCE_OF);
    /** Rule 4 has more; the class needs no more than these. */
    private static final Set<String> LIBRARY = Set.of("java.lang.Math.max", "java.lang.Math.min",
        "java.lang.String.length", "java.lang.String.charAt", "java.lang.Object.<init>");
    private static final Set<String> NUMBERS = Set.of("int", "long", "short", "byte", "char", "boolean");
    private static final int MOST_LINES = 60, MOST_PARAMETERS = 7, MOST_CLASSES = 12, MOST_FIELDS = 20, MOST_CALLS = 8;

    private final Trees trees;
    private final CompilationUnitTree unit;
    private final Map<String, Set<String>> calls = new HashMap<>();
    private final Set<String> selfCallers = new TreeSet<>();
    private final Set<String> makers = new TreeSet<>();
    private final Map<String, Set<String>> callers = new HashMap<>();
    private int classes = 0;

    private RulesTest(Trees trees, CompilationUnitTree unit) {
        this.trees = trees;
        this.unit = unit;
    }

    public static void main(String[] args) throws Exception {
        Path program = Path.of(System.getProperty("program", "src/main/java/SnakeLadders.java"));
        JavaCompiler compiler = ToolProvider.getSystemJavaCompiler();
        JavacTask task = (JavacTask) compiler.getTask(null, null, null, List.of("-proc:none"), null,
            compiler.getStandardFileManager(null, null, null).getJavaFileObjects(program));
        for (CompilationUnitTree unit : task.parse()) {
            task.analyze();
            RulesTest rules = new RulesTest(Trees.instance(task), unit);
            rules.scan(unit, null);
            rules.end();
        }
        check.end();
    }

    private void end() {
        check.holds("some twelve classes: " + classes, classes > 1 && classes <= MOST_CLASSES);
        for (String maker : makers) {
            check.holds("rule 12: " + maker + " makes objects for constructors alone: " + callers.get(maker),
                Set.of("(a field)").equals(callers.get(maker)));
        }
        int deepest = 0;
        for (String method : calls.keySet()) {
            deepest = Math.max(deepest, depth(method, 1));
        }
        check.holds("rule 11: calls go " + deepest + " deep", deepest > 1 && deepest <= MOST_CALLS);
        check.holds("what calls itself is found: " + selfCallers, selfCallers.size() == 3);
    }

    /** How many calls stand open below a method, itself counted; what calls itself counts once. */
    private int depth(String method, int open) {
        check.holds("rule 8: no ring of calls at " + method, open < 40);
        int most = 1;
        for (String called : calls.getOrDefault(method, Set.of())) {
            if (open < 40 && !called.equals(method)) {
                most = Math.max(most, 1 + depth(called, open + 1));
            }
        }
        return most;
    }

    // ---- what may not stand there at all

    @Override
    public Void scan(Tree tree, Void none) {
        if (tree != null) {
            check.holds("no " + tree.getKind() + " in line " + line(tree), !RULED_OUT.contains(tree.getKind()));
        }
        return super.scan(tree, none);
    }

    @Override
    public Void visitBinary(BinaryTree tree, Void none) {
        String type = trees.getTypeMirror(getCurrentPath()).toString();
        check.holds("rule 10: texts are not joined by + in line " + line(tree), NUMBERS.contains(type));
        return super.visitBinary(tree, none);
    }

    @Override
    public Void visitTypeCast(TypeCastTree tree, Void none) {
        check.holds("rule 6: a cast of numbers in line " + line(tree), NUMBERS.contains(tree.getType().toString()));
        return super.visitTypeCast(tree, none);
    }

    @Override
    public Void visitLiteral(LiteralTree tree, Void none) {
        if (tree.getValue() instanceof String text) {
            check.holds("rule 4: signs 1 to 127 in line " + line(tree), text.chars().allMatch(c -> c > 0 && c < 128));
        }
        return super.visitLiteral(tree, none);
    }

    // ---- classes, fields, methods

    @Override
    public Void visitClass(ClassTree tree, Void none) {
        classes++;
        Element element = trees.getElement(getCurrentPath());
        boolean outer = element.getEnclosingElement().getKind() != ElementKind.CLASS;
        check.holds("rule 2: " + element + " is static", outer || element.getModifiers().contains(Modifier.STATIC));
        check.holds("rule 1: " + element + " is not open", outer != element.getModifiers().contains(Modifier.PRIVATE));
        int fields = 0;
        for (Tree member : tree.getMembers()) {
            check.holds("rule 5: no initialiser block in line " + line(member), member.getKind() != Tree.Kind.BLOCK);
            if (member instanceof VariableTree field && !field.getModifiers().getFlags().contains(Modifier.STATIC)) {
                fields++;
            }
        }
        check.holds("rule 11: " + element + " has " + fields + " fields", fields <= MOST_FIELDS);
        return super.visitClass(tree, none);
    }

    @Override
    public Void visitVariable(VariableTree tree, Void none) {
        VariableElement element = (VariableElement) trees.getElement(getCurrentPath());
        String type = element.asType().toString();
        boolean own = type.matches("SnakeLadders(\\.\\w+)?(\\[\\])?");
        boolean number = NUMBERS.contains(type.replaceFirst("\\[\\]$", ""));
        check.holds("rule 3: the type " + type + " in line " + line(tree), own || number || type.equals("java.lang.String"));
        if (element.getModifiers().contains(Modifier.STATIC)) {
            check.holds("rule 5: " + element + " is a constant", element.getConstantValue() != null);
        }
        return super.visitVariable(tree, none);
    }

    @Override
    public Void visitMethod(MethodTree tree, Void none) {
        int lines = line(trees.getSourcePositions().getEndPosition(unit, tree)) - line(tree) + 1;
        check.holds("rule 11: " + tree.getName() + " has " + lines + " lines", lines <= MOST_LINES);
        int parameters = tree.getParameters().size();
        check.holds("rule 11: " + tree.getName() + " takes " + parameters, parameters <= MOST_PARAMETERS);
        return super.visitMethod(tree, none);
    }

    // ---- calls, and what makes objects

    @Override
    public Void visitMethodInvocation(MethodInvocationTree tree, Void none) {
        addCall(tree);
        return super.visitMethodInvocation(tree, none);
    }

    @Override
    public Void visitNewClass(NewClassTree tree, Void none) {
        addCall(tree);
        made();
        check.holds("rule 2: no class without a name in line " + line(tree), tree.getClassBody() == null);
        return super.visitNewClass(tree, none);
    }

    @Override
    public Void visitNewArray(NewArrayTree tree, Void none) {
        made();
        check.holds("rule 3: one dimension in line " + line(tree), tree.getDimensions().size() <= 1);
        return super.visitNewArray(tree, none);
    }

    private void made() {
        String where = enclosing();
        if (!where.equals("(a field)")) {
            makers.add(where);
        }
    }

    private void addCall(Tree tree) {
        ExecutableElement called = (ExecutableElement) trees.getElement(getCurrentPath());
        String name = nameOf(called);
        String from = enclosing();
        boolean own = name.startsWith("SnakeLadders");
        check.holds("rule 4: " + name + " in line " + line(tree), own || LIBRARY.contains(name));
        callers.computeIfAbsent(name, any -> new TreeSet<>()).add(from);
        if (name.equals(from)) {
            selfCallers.add(name);
            check.holds("rule 8: " + name + " is private and static",
                called.getModifiers().containsAll(Set.of(Modifier.PRIVATE, Modifier.STATIC)));
        }
        calls.computeIfAbsent(from, any -> new TreeSet<>()).add(name);
    }

    private String enclosing() {
        for (TreePath path = getCurrentPath(); path != null; path = path.getParentPath()) {
            if (path.getLeaf() instanceof MethodTree) {
                return nameOf(trees.getElement(path));
            }
        }
        return "(a field)";
    }

    private static String nameOf(Element method) {
        return method.getEnclosingElement() + "." + method.getSimpleName();
    }

    private int line(Tree tree) {
        return line(trees.getSourcePositions().getStartPosition(unit, tree));
    }

    private int line(long position) {
        return position < 0 ? 0 : (int) unit.getLineMap().getLineNumber(position);
    }
}
