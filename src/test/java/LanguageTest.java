import com.sun.source.tree.ArrayTypeTree;
import com.sun.source.tree.ClassTree;
import com.sun.source.tree.CompilationUnitTree;
import com.sun.source.tree.DoWhileLoopTree;
import com.sun.source.tree.EnhancedForLoopTree;
import com.sun.source.tree.ExpressionTree;
import com.sun.source.tree.ForLoopTree;
import com.sun.source.tree.IdentifierTree;
import com.sun.source.tree.LiteralTree;
import com.sun.source.tree.MemberSelectTree;
import com.sun.source.tree.MethodInvocationTree;
import com.sun.source.tree.MethodTree;
import com.sun.source.tree.NewArrayTree;
import com.sun.source.tree.NewClassTree;
import com.sun.source.tree.PrimitiveTypeTree;
import com.sun.source.tree.Tree;
import com.sun.source.tree.VariableTree;
import com.sun.source.tree.WhileLoopTree;
import com.sun.source.util.JavacTask;
import com.sun.source.util.TreeScanner;
import com.sun.source.util.Trees;
import java.nio.file.Files;
import java.nio.file.Path;
import java.util.Arrays;
import java.util.List;
import java.util.Map;
import java.util.Set;
import java.util.TreeMap;
import java.util.TreeSet;
import javax.lang.model.element.Modifier;
import javax.tools.JavaCompiler;
import javax.tools.StandardJavaFileManager;
import javax.tools.ToolProvider;

/**
 * The source keeps to the rules of LANGUAGE.md that its text shows. Where a rule leaves a choice that the class does
 * not need, such as a while loop, the test is stricter than the rule.
 */
public final class LanguageTest extends TreeScanner<Void, Void> {
    private static final Path SOURCE = Path.of("src/main/java/MutantRunner.java");
    private static final Set<String> BANNED_WORDS = Set.of(
        "import", "package", "throw", "throws", "try", "catch", "finally", "synchronized", "assert",
        "instanceof", "null", "float", "double", "String", "Math", "Integer", "Long", "System", "Arrays",
        "Object", "enum", "record", "interface", "var", "protected", "native", "volatile", "transient");
    private static final int MOST_LINES = 60;
    private static final int MOST_FIELDS = 40;
    private static final int MOST_PARAMETERS = 7;
    private static final int DEEPEST = 6;

    private final Map<String, Set<String>> calls = new TreeMap<>();
    private final Set<String> constants = new TreeSet<>();
    private final CompilationUnitTree unit;
    private final Trees trees;
    private String method = "";
    private int fields;
    private int arguments;

    private LanguageTest(CompilationUnitTree unit, Trees trees) {
        this.unit = unit;
        this.trees = trees;
    }

    public static void main(String[] args) throws Exception {
        words();
        JavaCompiler compiler = ToolProvider.getSystemJavaCompiler();
        try (StandardJavaFileManager files = compiler.getStandardFileManager(null, null, null)) {
            List<String> options = List.of("--release", "17");
            JavacTask task = (JavacTask) compiler.getTask(null, files, null, options, null, files.getJavaFileObjects(SOURCE));
            CompilationUnitTree unit = task.parse().iterator().next();
            LanguageTest test = new LanguageTest(unit, Trees.instance(task));
            Checks.due("rule 1: classes in the file", unit.getTypeDecls().size(), 1);
            test.scan(unit, null);
            test.theCallsEnd();
        }
        Checks.end();
    }

    /** Rules 1, 2, 3 and 6, as far as a word gives the breach away. */
    private static void words() throws Exception {
        String source = Files.readString(SOURCE);
        String code = source.replaceAll("(?s)/\\*.*?\\*/", " ").replaceAll("//[^\n]*", " ");
        Set<String> banned = new TreeSet<>(Arrays.asList(code.split("[^A-Za-z0-9_]+")));
        banned.retainAll(BANNED_WORDS);
        Checks.holds("no banned word, but " + banned, banned.isEmpty());
        Checks.holds("rule 6: no lambda or method reference", !code.contains("->") && !code.contains("::"));
        Checks.holds("rule 2: no text", !code.contains("\""));
    }

    @Override
    public Void visitClass(ClassTree node, Void none) {
        for (Tree member : node.getMembers()) {
            if (member instanceof VariableTree field) {
                theField(field);
            } else {
                Checks.holds("rules 1 and 5: only fields and methods", member instanceof MethodTree);
            }
        }
        Checks.holds("rule 10: " + fields + " fields", fields <= MOST_FIELDS);
        return super.visitClass(node, none);
    }

    private void theField(VariableTree field) {
        Set<Modifier> modifiers = field.getModifiers().getFlags();
        boolean isArray = field.getType() instanceof ArrayTypeTree;
        if (modifiers.contains(Modifier.STATIC)) {
            String type = field.getType().toString();
            Checks.holds("rule 5: " + field + " is a constant of int or long", modifiers.contains(Modifier.FINAL)
                && (type.equals("int") || type.equals("long")) && field.getInitializer() != null);
            constants.add(field.getName().toString());
        } else {
            fields++;
            Checks.holds("rule 1: " + field + " is private", modifiers.contains(Modifier.PRIVATE));
        }
        Checks.holds("rule 4: " + field + " keeps its array", !isArray || modifiers.contains(Modifier.FINAL));
        Checks.holds("rule 4: " + field + " makes its array", !isArray || field.getInitializer() instanceof NewArrayTree);
    }

    @Override
    public Void visitMethod(MethodTree node, Void none) {
        method = node.getName().toString();
        Checks.holds("rule 1: one method " + method, calls.put(method, new TreeSet<>()) == null);
        Checks.holds("rule 4: " + method + " answers no array",
            node.getReturnType() == null || node.getReturnType() instanceof PrimitiveTypeTree);
        Checks.holds("rule 10: parameters of " + method, node.getParameters().size() <= MOST_PARAMETERS);
        long first = lineOf(trees.getSourcePositions().getStartPosition(unit, node));
        long last = lineOf(trees.getSourcePositions().getEndPosition(unit, node));
        Checks.holds("rule 10: lines of " + method, last - first < MOST_LINES);
        super.visitMethod(node, none);
        method = "";
        return null;
    }

    private long lineOf(long position) {
        return unit.getLineMap().getLineNumber(position);
    }

    @Override
    public Void visitVariable(VariableTree node, Void none) {
        Tree type = node.getType();
        Tree inner = type instanceof ArrayTypeTree array ? array.getType() : type;
        Checks.holds("rule 2: the type of " + node, inner instanceof PrimitiveTypeTree);
        return super.visitVariable(node, none);
    }

    @Override
    public Void visitNewArray(NewArrayTree node, Void none) {
        Checks.holds("rule 4: " + node + " stands at a field", method.isEmpty());
        Checks.due("rule 4: dimensions of " + node, node.getDimensions().size(), 1);
        for (ExpressionTree length : node.getDimensions()) {
            boolean isConstant = length instanceof IdentifierTree && constants.contains(length.toString());
            Checks.holds("rule 4: the length of " + node, isConstant || length instanceof LiteralTree);
        }
        return super.visitNewArray(node, none);
    }

    @Override
    public Void visitNewClass(NewClassTree node, Void none) {
        Checks.holds("rule 4: no object is made: " + node, false);
        return super.visitNewClass(node, none);
    }

    @Override
    public Void visitMemberSelect(MemberSelectTree node, Void none) {
        Checks.holds("rule 3: nothing of another class: " + node, false);
        return super.visitMemberSelect(node, none);
    }

    @Override
    public Void visitMethodInvocation(MethodInvocationTree node, Void none) {
        String called = node.getMethodSelect().toString();
        if (!called.equals("super")) {
            Checks.due("rule 10: " + node + " stands in the arguments of a call", arguments, 0);
            Checks.holds("rule 8: " + node + " stands in a method", !method.isEmpty());
            calls.getOrDefault(method, new TreeSet<>()).add(called);
        }
        arguments++;
        scan(node.getArguments(), none);
        arguments--;
        return scan(node.getMethodSelect(), none);
    }

    @Override
    public Void visitForLoop(ForLoopTree node, Void none) {
        Checks.holds("rule 8: a counter against a bound in " + method,
            node.getInitializer().size() == 1 && node.getCondition() != null && node.getUpdate().size() == 1);
        return super.visitForLoop(node, none);
    }

    @Override
    public Void visitEnhancedForLoop(EnhancedForLoopTree node, Void none) {
        Checks.holds("rule 8: a counter against a bound in " + method, false);
        return super.visitEnhancedForLoop(node, none);
    }

    @Override
    public Void visitWhileLoop(WhileLoopTree node, Void none) {
        Checks.holds("rule 8: a counter against a bound in " + method, false);
        return super.visitWhileLoop(node, none);
    }

    @Override
    public Void visitDoWhileLoop(DoWhileLoopTree node, Void none) {
        Checks.holds("rule 8: a counter against a bound in " + method, false);
        return super.visitDoWhileLoop(node, none);
    }

    /** Rules 3, 8 and 10: only methods of the class are called, and no row of calls is longer than six. */
    private void theCallsEnd() {
        Set<String> reached = calls.keySet();
        for (int depth = 1; depth <= DEEPEST; depth++) {
            Set<String> further = new TreeSet<>();
            for (String caller : reached) {
                further.addAll(calls.getOrDefault(caller, Set.of()));
            }
            Checks.holds("rule 3: of another class: " + further, calls.keySet().containsAll(further));
            reached = further;
        }
        Checks.holds("rules 8 and 10: more than six deep: " + reached, reached.isEmpty());
    }
}
