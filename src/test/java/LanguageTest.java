import com.sun.source.tree.CatchTree;
import com.sun.source.tree.ClassTree;
import com.sun.source.tree.CompilationUnitTree;
import com.sun.source.tree.ImportTree;
import com.sun.source.tree.LambdaExpressionTree;
import com.sun.source.tree.LineMap;
import com.sun.source.tree.MemberReferenceTree;
import com.sun.source.tree.MethodInvocationTree;
import com.sun.source.tree.MethodTree;
import com.sun.source.tree.NewClassTree;
import com.sun.source.tree.ThrowTree;
import com.sun.source.tree.Tree;
import com.sun.source.tree.VariableTree;
import com.sun.source.util.JavacTask;
import com.sun.source.util.TreePathScanner;
import com.sun.source.util.Trees;
import java.io.File;
import java.io.IOException;
import java.util.ArrayList;
import java.util.List;
import java.util.Map;
import java.util.Set;
import java.util.TreeMap;
import java.util.TreeSet;
import javax.lang.model.element.Element;
import javax.lang.model.element.Modifier;
import javax.tools.JavaCompiler;
import javax.tools.StandardJavaFileManager;
import javax.tools.ToolProvider;

/** What of ../shared/LANGUAGE.md can be counted in the text of WindBay.java; each test bears its rule's number. */
public final class LanguageTest {
    private static final File SOURCE = new File("src/main/java/WindBay.java");
    private static final Set<String> EXCEPTIONS = Set.of("IllegalStateException", "IllegalArgumentException",
        "IndexOutOfBoundsException", "ArithmeticException", "UnsupportedOperationException",
        "NoSuchElementException", "RuntimeException");
    private static final int DEEPEST_CALLS = 8;

    private static final Map<String, Set<String>> CALLS = new TreeMap<>();
    private static final Map<String, Integer> LINES = new TreeMap<>();
    private static final Map<String, Integer> PARAMETERS = new TreeMap<>();
    private static final Map<String, Integer> FIELDS = new TreeMap<>();
    private static final Set<String> STATE = new TreeSet<>();
    private static final Set<String> CAUGHT = new TreeSet<>();
    private static final List<String> IMPORTS = new ArrayList<>();
    private static final List<String> RULED_OUT = new ArrayList<>();

    public static void main(String[] args) throws IOException {
        read();
        Due.sentence("rule 4: of the library Arrays alone is brought in", LanguageTest::imports);
        Due.sentence("rule 5: static fields are final", () -> Due.is("others: " + STATE, STATE.size(), 0));
        Due.sentence("rule 6: what is thrown and caught is code's own", LanguageTest::exceptions);
        Due.sentence("rule 8: no recursion; rule 11: calls go at most eight deep", LanguageTest::deepCalls);
        Due.sentence("rule 11: at most seven parameters", () -> most(PARAMETERS, 7));
        Due.sentence("rule 11: some sixty lines", () -> most(LINES, 60));
        Due.sentence("rule 11: at most some twelve classes, some twenty fields beside constants", LanguageTest::classes);
        Due.sentence("rules 2 and 6: no lambda, no method reference, no class without a name",
            () -> Due.is("ruled out: " + RULED_OUT, RULED_OUT.size(), 0));
        Due.end();
    }

    private static void read() throws IOException {
        JavaCompiler compiler = ToolProvider.getSystemJavaCompiler();
        try (StandardJavaFileManager files = compiler.getStandardFileManager(null, null, null)) {
            JavacTask task = (JavacTask) compiler.getTask(null, files, null, List.of("-proc:none"), null,
                files.getJavaFileObjects(SOURCE));
            Iterable<? extends CompilationUnitTree> units = task.parse();
            task.analyze();
            for (CompilationUnitTree unit : units) {
                new Reader(unit, Trees.instance(task)).scan(unit, null);
            }
        }
    }

    /** Notes down what the tests ask for. */
    private static final class Reader extends TreePathScanner<Void, Void> {
        private final CompilationUnitTree unit;
        private final Trees trees;
        private String inMethod = "";

        Reader(CompilationUnitTree unit, Trees trees) {
            this.unit = unit;
            this.trees = trees;
        }

        private static String name(Element element) {
            return element.getEnclosingElement() + "." + element;
        }

        @Override
        public Void visitImport(ImportTree tree, Void nothing) {
            IMPORTS.add(tree.getQualifiedIdentifier().toString());
            return super.visitImport(tree, nothing);
        }

        @Override
        public Void visitClass(ClassTree tree, Void nothing) {
            FIELDS.put(tree.getSimpleName().toString(), 0);
            for (Tree member : tree.getMembers()) {
                if (member instanceof VariableTree) {
                    Set<Modifier> flags = ((VariableTree) member).getModifiers().getFlags();
                    if (!flags.contains(Modifier.STATIC)) {
                        FIELDS.merge(tree.getSimpleName().toString(), 1, Integer::sum);
                    } else if (!flags.contains(Modifier.FINAL)) {
                        STATE.add(member.toString());
                    }
                }
            }
            return super.visitClass(tree, nothing);
        }

        @Override
        public Void visitMethod(MethodTree tree, Void nothing) {
            inMethod = name(trees.getElement(getCurrentPath()));
            CALLS.put(inMethod, new TreeSet<>());
            PARAMETERS.put(inMethod, tree.getParameters().size());
            LineMap lines = unit.getLineMap();
            long first = lines.getLineNumber(trees.getSourcePositions().getStartPosition(unit, tree));
            long last = lines.getLineNumber(Math.max(0, trees.getSourcePositions().getEndPosition(unit, tree)));
            LINES.put(inMethod, (int) (last - first + 1));
            super.visitMethod(tree, nothing);
            inMethod = "";
            return null;
        }

        @Override
        public Void visitMethodInvocation(MethodInvocationTree tree, Void nothing) {
            if (!inMethod.isEmpty()) {
                CALLS.get(inMethod).add(name(trees.getElement(getCurrentPath())));
            }
            return super.visitMethodInvocation(tree, nothing);
        }

        @Override
        public Void visitNewClass(NewClassTree tree, Void nothing) {
            if (tree.getClassBody() != null) {
                RULED_OUT.add(tree.toString());
            }
            return super.visitNewClass(tree, nothing);
        }

        @Override
        public Void visitCatch(CatchTree tree, Void nothing) {
            CAUGHT.add(tree.getParameter().getType().toString());
            return super.visitCatch(tree, nothing);
        }

        @Override
        public Void visitThrow(ThrowTree tree, Void nothing) {
            boolean isMade = tree.getExpression() instanceof NewClassTree;
            String thrown = isMade ? ((NewClassTree) tree.getExpression()).getIdentifier().toString() : "";
            if (!EXCEPTIONS.contains(thrown)) {
                RULED_OUT.add(tree.toString());
            }
            return super.visitThrow(tree, nothing);
        }

        @Override
        public Void visitLambdaExpression(LambdaExpressionTree tree, Void nothing) {
            RULED_OUT.add(tree.toString());
            return super.visitLambdaExpression(tree, nothing);
        }

        @Override
        public Void visitMemberReference(MemberReferenceTree tree, Void nothing) {
            RULED_OUT.add(tree.toString());
            return super.visitMemberReference(tree, nothing);
        }
    }

    private static void imports() {
        for (String used : IMPORTS) {
            Due.is("import " + used, used.equals("java.util.Arrays") ? 1 : 0, 1);
        }
    }

    /** What the machine throws is never caught, by a class above it neither. */
    private static void exceptions() {
        for (String caught : CAUGHT) {
            boolean own = caught.equals("IllegalStateException") || caught.equals("IllegalArgumentException");
            Due.is("catch of " + caught, own ? 1 : 0, 1);
        }
    }

    private static void deepCalls() {
        Due.is("methods that were read", CALLS.size() > 100 ? 1 : 0, 1);
        for (String method : CALLS.keySet()) {
            String chain = deepest(method, DEEPEST_CALLS);
            Due.is("calls deeper than eight: " + chain, chain.isEmpty() ? 0 : 1, 0);
        }
    }

    /** A chain of calls that goes deeper than that; empty, if there is none. */
    private static String deepest(String method, int left) {
        if (left == 0) {
            return method;
        }
        for (String called : CALLS.getOrDefault(method, Set.of())) {
            String chain = deepest(called, left - 1);
            if (!chain.isEmpty()) {
                return method + " > " + chain;
            }
        }
        return "";
    }

    private static void most(Map<String, Integer> counted, int limit) {
        counted.forEach((name, n) -> Due.is(name + " has " + n, n <= limit ? 1 : 0, 1));
    }

    private static void classes() {
        Due.is("classes", FIELDS.size() <= 12 ? 1 : 0, 1);
        most(FIELDS, 20);
    }
}
