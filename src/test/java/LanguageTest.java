import com.sun.source.tree.BinaryTree;
import com.sun.source.tree.ClassTree;
import com.sun.source.tree.CompilationUnitTree;
import com.sun.source.tree.LiteralTree;
import com.sun.source.tree.MethodInvocationTree;
import com.sun.source.tree.MethodTree;
import com.sun.source.tree.NewClassTree;
import com.sun.source.tree.Tree;
import com.sun.source.tree.VariableTree;
import com.sun.source.util.JavacTask;
import com.sun.source.util.TreePathScanner;
import com.sun.source.util.Trees;
import java.io.IOException;
import java.util.ArrayList;
import java.util.LinkedHashMap;
import java.util.LinkedHashSet;
import java.util.List;
import java.util.Map;
import java.util.Set;
import javax.lang.model.element.Element;
import javax.lang.model.element.Modifier;
import javax.tools.JavaCompiler;
import javax.tools.StandardJavaFileManager;
import javax.tools.ToolProvider;

/** The rules of ../shared/LANGUAGE.md that can be counted in src/main/java/RuleTree.java, by their numbers. */
public final class LanguageTest extends TreePathScanner<Void, Void> {
    private static final String SOURCE = "src/main/java/RuleTree.java";
    private static final int MOST_CALLS_DEEP = 8;
    private static final int MOST_PARAMETERS = 7;
    private static final int MOST_LINES = 60;
    private static final int MOST_CLASSES = 12;
    private static final int MOST_FIELDS = 20;
    private static final Set<String> LIBRARY = Set.of("java.lang.Object.Object", "java.lang.System.arraycopy",
        "java.util.Arrays.copyOf", "java.util.Arrays.copyOfRange", "java.util.Arrays.fill");
    private static final Set<String> NUMBER_CLASSES = Set.of("java.lang.Math", "java.lang.Integer", "java.lang.Long");
    /** The document asks for no exception, so there is none to throw or to catch. */
    private static final Set<Tree.Kind> REFUSED = Set.of(Tree.Kind.LAMBDA_EXPRESSION, Tree.Kind.MEMBER_REFERENCE,
        Tree.Kind.THROW, Tree.Kind.TRY, Tree.Kind.SYNCHRONIZED, Tree.Kind.ASSERT);
    private static final Check CHECK = new Check();

    private final Trees trees;
    private final CompilationUnitTree unit;
    /** For each method, what it calls. */
    private final Map<String, Set<String>> calls = new LinkedHashMap<>();
    private final Set<String> faceNames = new LinkedHashSet<>();
    private final Set<String> privateNames = new LinkedHashSet<>();
    private String method = "";
    private int classes = 0;

    private LanguageTest(Trees trees, CompilationUnitTree unit) {
        this.trees = trees;
        this.unit = unit;
    }

    public static void main(String[] args) throws IOException {
        JavaCompiler compiler = ToolProvider.getSystemJavaCompiler();
        try (StandardJavaFileManager files = compiler.getStandardFileManager(null, null, null)) {
            JavacTask task = (JavacTask) compiler.getTask(null, files, null, List.of("-proc:none"), null,
                files.getJavaFileObjects(SOURCE));
            CompilationUnitTree unit = task.parse().iterator().next();
            task.analyze();
            LanguageTest test = new LanguageTest(Trees.instance(task), unit);
            test.scan(unit, null);
            test.askOfCalls();
            test.askOfNames();
        }
        CHECK.end();
    }

    private static void rule(int number, String words) {
        CHECK.about("LANGUAGE.md, rule " + number + ", \"" + words + "\"");
    }

    private static void atMost(String what, long many, int most) {
        CHECK.due(what + " (" + many + ", at most " + most + ")", many <= most, true);
    }

    private void askOfNames() {
        rule(1, "No private method bears the name of a public one");
        CHECK.due("the face's methods", faceNames.size(), 19);
        for (String name : privateNames) {
            CHECK.due(name, faceNames.contains(name), false);
        }
        rule(11, "the file has at most some twelve classes");
        atMost("classes", classes, MOST_CLASSES);
    }

    private void askOfCalls() {
        rule(4, "The library: only what stands here");
        for (Set<String> called : calls.values()) {
            for (String callee : called) {
                CHECK.due(callee, calls.containsKey(callee) || isOfLibrary(callee), true);
            }
        }
        for (String caller : calls.keySet()) {
            askHowDeep(List.of(caller));
        }
    }

    private static boolean isOfLibrary(String callee) {
        String owner = callee.substring(0, callee.lastIndexOf('.'));
        return LIBRARY.contains(callee) || NUMBER_CLASSES.contains(owner) && !callee.endsWith("Exact");
    }

    /** The way is the methods that stand open at once, the library's among them. */
    private void askHowDeep(List<String> way) {
        String last = way.get(way.size() - 1);
        rule(8, "Recursion");
        boolean again = way.indexOf(last) < way.size() - 1;
        CHECK.due(String.join(" > ", way), again, false);
        rule(11, "calls that are no recursion go at most eight deep");
        atMost(String.join(" > ", way), way.size(), MOST_CALLS_DEEP);
        if (!again && way.size() <= MOST_CALLS_DEEP) {
            for (String callee : calls.getOrDefault(last, Set.of())) {
                List<String> further = new ArrayList<>(way);
                further.add(callee);
                askHowDeep(further);
            }
        }
    }

    @Override
    public Void visitClass(ClassTree tree, Void none) {
        classes++;
        int fields = 0;
        for (Tree member : tree.getMembers()) {
            if (member instanceof VariableTree field) {
                Set<Modifier> flags = field.getModifiers().getFlags();
                boolean fixed = flags.contains(Modifier.STATIC);
                fields += fixed ? 0 : 1;
                rule(5, "Static fields are final");
                CHECK.due(field.getName().toString(), fixed && !flags.contains(Modifier.FINAL), false);
            }
        }
        rule(11, "a class some twenty fields beside its constants");
        atMost(tree.getSimpleName().toString(), fields, MOST_FIELDS);
        return super.visitClass(tree, none);
    }

    @Override
    public Void visitMethod(MethodTree tree, Void none) {
        String outer = method;
        method = nameOf(trees.getElement(getCurrentPath()));
        calls.put(method, new LinkedHashSet<>());
        Set<Modifier> flags = tree.getModifiers().getFlags();
        if (tree.getReturnType() != null && flags.contains(Modifier.PUBLIC)) {
            faceNames.add(tree.getName().toString());
        } else if (tree.getReturnType() != null) {
            privateNames.add(tree.getName().toString());
        }
        rule(11, "A method takes at most seven parameters. Methods stay short (some sixty lines)");
        atMost(method + ", parameters", tree.getParameters().size(), MOST_PARAMETERS);
        atMost(method + ", lines", lineAt(trees.getSourcePositions().getEndPosition(unit, tree))
            - lineAt(trees.getSourcePositions().getStartPosition(unit, tree)) + 1, MOST_LINES);
        super.visitMethod(tree, none);
        method = outer;
        return null;
    }

    private long lineAt(long position) {
        return position < 0 ? 0 : unit.getLineMap().getLineNumber(position);
    }

    @Override
    public Void visitMethodInvocation(MethodInvocationTree tree, Void none) {
        addCall();
        return super.visitMethodInvocation(tree, none);
    }

    @Override
    public Void visitNewClass(NewClassTree tree, Void none) {
        addCall();
        return super.visitNewClass(tree, none);
    }

    private void addCall() {
        calls.getOrDefault(method, new LinkedHashSet<>()).add(nameOf(trees.getElement(getCurrentPath())));
    }

    private static String nameOf(Element called) {
        Element owner = called.getEnclosingElement();
        boolean made = called.getSimpleName().contentEquals("<init>");
        return owner + "." + (made ? owner.getSimpleName() : called.getSimpleName());
    }

    @Override
    public Void scan(Tree tree, Void none) {
        if (tree != null && REFUSED.contains(tree.getKind())) {
            CHECK.about("LANGUAGE.md, rules 2 and 6, what has no place in the class");
            CHECK.due(tree.getKind() + ": " + tree, true, false);
        }
        return super.scan(tree, none);
    }

    @Override
    public Void visitBinary(BinaryTree tree, Void none) {
        if (tree.getKind() == Tree.Kind.DIVIDE || tree.getKind() == Tree.Kind.REMAINDER) {
            rule(7, "a divisor before it divides");
            boolean written = tree.getRightOperand() instanceof LiteralTree number && !number.getValue().equals(0);
            CHECK.due(tree + ", by a written number other than 0", written, true);
        }
        return super.visitBinary(tree, none);
    }
}
