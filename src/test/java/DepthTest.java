import com.sun.source.tree.CompilationUnitTree;
import com.sun.source.tree.MethodInvocationTree;
import com.sun.source.tree.MethodTree;
import com.sun.source.tree.NewClassTree;
import com.sun.source.tree.Tree;
import com.sun.source.util.JavacTask;
import com.sun.source.util.TreePath;
import com.sun.source.util.TreePathScanner;
import com.sun.source.util.Trees;
import java.io.IOException;
import java.nio.file.Path;
import java.util.ArrayDeque;
import java.util.Deque;
import java.util.HashMap;
import java.util.LinkedHashSet;
import java.util.List;
import java.util.Map;
import java.util.Set;
import javax.lang.model.element.Element;
import javax.lang.model.element.Modifier;
import javax.tools.StandardJavaFileManager;
import javax.tools.ToolProvider;

/** What calls what, by the language's rules: 4, only what it lists of the library; 11, at most eight deep but for recursion. */
public final class DepthTest {
    private static final Path SOURCE = Path.of("src/main/java/StrikeBallots.java");
    /** The public call is counted, too. */
    private static final int DEEPEST = 8;
    private static final Set<String> LIBRARY = Set.of("Object.Object()", "String.length()", "String.charAt(int)",
            "String.isEmpty()", "String.indexOf(int)", "Integer.bitCount(int)", "Long.bitCount(long)", "Math.max(int,int)",
            "Math.min(int,int)", "Arrays.fill(int[],int)", "Arrays.fill(short[],short)",
            "System.arraycopy(java.lang.Object,int,java.lang.Object,int,int)");

    private static final Checks c = new Checks();
    private static final Map<Element, Set<Element>> calls = new HashMap<>();

    public static void main(String[] args) throws IOException {
        readCalls();
        int asked = 0;
        for (Element method : calls.keySet()) {
            if (method.getModifiers().contains(Modifier.PUBLIC)) {
                asked++;
                goOn(method, new ArrayDeque<>());
            }
        }
        c.due("public methods and the constructor", asked, 46);
        library();
        c.end();
    }

    private static void library() {
        for (Set<Element> called : calls.values()) {
            for (Element method : called) {
                String name = method.getEnclosingElement().getSimpleName() + "." + nameOf(method);
                c.holds("rule 4 does not list " + name, calls.containsKey(method) || isOwn(method) || LIBRARY.contains(name));
            }
        }
    }

    /** A constructor is called by its class's name. */
    private static String nameOf(Element method) {
        return method.toString().replace("<init>", method.getEnclosingElement().getSimpleName());
    }

    /** A constructor that is not written out is not among the methods of the source. */
    private static boolean isOwn(Element method) {
        return method.getEnclosingElement().toString().startsWith("StrikeBallots");
    }

    private static void readCalls() throws IOException {
        var compiler = ToolProvider.getSystemJavaCompiler();
        try (StandardJavaFileManager files = compiler.getStandardFileManager(null, null, null)) {
            JavacTask task = (JavacTask) compiler.getTask(null, files, null, List.of("-proc:none"), null, files.getJavaFileObjects(SOURCE));
            Iterable<? extends CompilationUnitTree> units = task.parse();
            task.analyze();
            for (CompilationUnitTree unit : units) {
                new Reader(Trees.instance(task)).scan(unit, null);
            }
        }
    }

    private static void goOn(Element method, Deque<Element> open) {
        open.addLast(method);
        if (open.size() > DEEPEST) {
            c.holds("too deep: " + open, false);
        } else {
            for (Element next : calls.getOrDefault(method, Set.of())) {
                // What stands open already is a recursion: that has rules of its own.
                if (calls.containsKey(next) && !open.contains(next)) {
                    goOn(next, open);
                }
            }
        }
        open.removeLast();
    }

    private static final class Reader extends TreePathScanner<Void, Element> {
        private final Trees trees;

        Reader(Trees trees) {
            this.trees = trees;
        }

        @Override
        public Void visitMethod(MethodTree tree, Element around) {
            Element method = trees.getElement(getCurrentPath());
            calls.put(method, new LinkedHashSet<>());
            return super.visitMethod(tree, method);
        }

        @Override
        public Void visitMethodInvocation(MethodInvocationTree tree, Element method) {
            note(tree.getMethodSelect(), method);
            return super.visitMethodInvocation(tree, method);
        }

        @Override
        public Void visitNewClass(NewClassTree tree, Element method) {
            note(tree, method);
            return super.visitNewClass(tree, method);
        }

        private void note(Tree called, Element method) {
            Element element = called == getCurrentPath().getLeaf() ? trees.getElement(getCurrentPath())
                    : trees.getElement(new TreePath(getCurrentPath(), called));
            if (method != null && element != null) {
                calls.get(method).add(element);
            }
        }
    }
}
