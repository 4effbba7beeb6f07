import com.sun.source.tree.ClassTree;
import com.sun.source.tree.CompilationUnitTree;
import com.sun.source.tree.MethodInvocationTree;
import com.sun.source.tree.MethodTree;
import com.sun.source.tree.NewClassTree;
import com.sun.source.tree.Tree;
import com.sun.source.tree.VariableTree;
import com.sun.source.util.JavacTask;
import com.sun.source.util.TreePathScanner;
import com.sun.source.util.Trees;
import java.io.IOException;
import java.nio.file.Path;
import java.util.HashMap;
import java.util.List;
import java.util.Map;
import java.util.TreeSet;
import javax.lang.model.element.Element;
import javax.lang.model.element.ElementKind;
import javax.lang.model.element.Modifier;
import javax.lang.model.element.TypeElement;
import javax.lang.model.element.VariableElement;
import javax.tools.JavaCompiler;
import javax.tools.StandardJavaFileManager;
import javax.tools.ToolProvider;

/** What the compiler reads in one Java file: its methods, whom they call, its fields, types and kinds of code. */
final class SourceTree extends TreePathScanner<Void, Void> {
    /** Own methods and constructors, as «Class.name», with the own ones that they call. */
    final Map<String, TreeSet<String>> ownCalls = new HashMap<>();
    final Map<String, Integer> parameters = new HashMap<>();
    /** Fields of each class beside its constants. */
    final Map<String, Integer> fields = new HashMap<>();
    final TreeSet<String> libraryCalls = new TreeSet<>();
    final TreeSet<String> types = new TreeSet<>();
    final TreeSet<String> kinds = new TreeSet<>();

    private final Trees trees;
    private String method = "";

    static SourceTree of(Path file) throws IOException {
        JavaCompiler compiler = ToolProvider.getSystemJavaCompiler();
        try (StandardJavaFileManager files = compiler.getStandardFileManager(null, null, null)) {
            JavacTask task = (JavacTask) compiler.getTask(null, files, null, List.of("--release", "17"), null,
                files.getJavaFileObjects(file));
            SourceTree read = new SourceTree(Trees.instance(task));
            Iterable<? extends CompilationUnitTree> units = task.parse();
            task.analyze();
            for (CompilationUnitTree unit : units) {
                read.scan(unit, null);
            }
            return read;
        }
    }

    private SourceTree(Trees trees) {
        this.trees = trees;
    }

    /** How many calls stand open at most from a method on, itself too; beyond all bounds if it comes back to itself. */
    int depthFrom(String start) {
        return depthFrom(start, 0);
    }

    private int depthFrom(String start, int open) {
        int deepest = 0;
        if (open < 100) {
            for (String next : ownCalls.getOrDefault(start, new TreeSet<>())) {
                deepest = Math.max(deepest, depthFrom(next, open + 1));
            }
        }
        return deepest + 1;
    }

    private static String nameOf(Element of) {
        return of.getEnclosingElement().getSimpleName() + "." + of.getSimpleName();
    }

    private boolean isOwn(Element of) {
        return ownCalls.containsKey(nameOf(of)) || trees.getTree(of.getEnclosingElement()) != null;
    }

    private void noteCall(Element called) {
        if (isOwn(called)) {
            ownCalls.computeIfAbsent(method, any -> new TreeSet<>()).add(nameOf(called));
        } else {
            libraryCalls.add(nameOf(called));
        }
    }

    @Override
    public Void scan(Tree tree, Void nothing) {
        if (tree != null) {
            kinds.add(tree.getKind().toString());
        }
        return super.scan(tree, nothing);
    }

    @Override
    public Void visitClass(ClassTree tree, Void nothing) {
        Element of = trees.getElement(getCurrentPath());
        if (of instanceof TypeElement) {
            fields.put(of.getSimpleName().toString(), (int) of.getEnclosedElements().stream()
                .filter(field -> field.getKind() == ElementKind.FIELD && !field.getModifiers().contains(Modifier.STATIC)).count());
        }
        return super.visitClass(tree, nothing);
    }

    @Override
    public Void visitMethod(MethodTree tree, Void nothing) {
        Element of = trees.getElement(getCurrentPath());
        method = nameOf(of);
        ownCalls.computeIfAbsent(method, any -> new TreeSet<>());
        parameters.put(method, tree.getParameters().size());
        super.visitMethod(tree, nothing);
        method = "";
        return nothing;
    }

    @Override
    public Void visitVariable(VariableTree tree, Void nothing) {
        Element of = trees.getElement(getCurrentPath());
        if (of instanceof VariableElement) {
            types.add(of.asType().toString());
        }
        return super.visitVariable(tree, nothing);
    }

    @Override
    public Void visitMethodInvocation(MethodInvocationTree tree, Void nothing) {
        Element called = trees.getElement(getCurrentPath());
        if (called != null && !called.getSimpleName().contentEquals("<init>")) {
            noteCall(called);
        }
        return super.visitMethodInvocation(tree, nothing);
    }

    @Override
    public Void visitNewClass(NewClassTree tree, Void nothing) {
        noteCall(trees.getElement(getCurrentPath()));
        return super.visitNewClass(tree, nothing);
    }
}
