import com.sun.source.tree.ClassTree;
import com.sun.source.tree.CompilationUnitTree;
import com.sun.source.tree.MethodInvocationTree;
import com.sun.source.tree.MethodTree;
import com.sun.source.tree.NewClassTree;
import com.sun.source.tree.Tree;
import com.sun.source.util.JavacTask;
import com.sun.source.util.TreePath;
import com.sun.source.util.TreePathScanner;
import com.sun.source.util.Trees;
import java.io.IOException;
import java.nio.file.Path;
import java.util.ArrayList;
import java.util.LinkedHashMap;
import java.util.LinkedHashSet;
import java.util.List;
import java.util.Map;
import java.util.Set;
import javax.lang.model.element.Element;
import javax.lang.model.element.ElementKind;
import javax.lang.model.element.TypeElement;
import javax.lang.model.type.TypeMirror;
import javax.tools.JavaCompiler;
import javax.tools.StandardJavaFileManager;
import javax.tools.ToolProvider;

/** The program's text as the compiler sees it: its classes, its methods and who calls whom, and every piece of syntax. */
final class Source {
    /** A piece of syntax, with the class and the method in which it stands (the method is null outside of methods). */
    record Piece(Tree tree, TreePath path, String inClass, String inMethod, long line) {
        @Override
        public String toString() {
            return inClass + "." + inMethod + ", line " + line + ": " + tree.toString().split("\n")[0];
        }
    }

    /** A method or constructor (named "new"). */
    record Method(String name, MethodTree tree, long lines) {
    }

    final List<Piece> pieces = new ArrayList<>();
    final Map<String, Method> methods = new LinkedHashMap<>();
    final Map<String, Set<String>> calls = new LinkedHashMap<>();
    final Set<String> libraryCalls = new LinkedHashSet<>();
    final List<String> problems = new ArrayList<>();
    private Trees trees;
    private CompilationUnitTree unit;

    /** Null where the machine has no compiler at hand. */
    static Source of(Path file) throws IOException {
        JavaCompiler compiler = ToolProvider.getSystemJavaCompiler();
        return compiler == null ? null : new Source(compiler, file);
    }

    private Source(JavaCompiler compiler, Path file) throws IOException {
        try (StandardJavaFileManager files = compiler.getStandardFileManager(null, null, null)) {
            JavacTask task = (JavacTask) compiler.getTask(null, files, problem -> problems.add(problem.toString()),
                List.of("-proc:none", "-Xlint:all"), null, files.getJavaFileObjects(file));
            unit = task.parse().iterator().next();
            task.analyze();
            trees = Trees.instance(task);
            new Reading().scan(unit, null);
        }
    }

    List<Piece> of(Tree.Kind... kinds) {
        return pieces.stream().filter(piece -> List.of(kinds).contains(piece.tree.getKind())).toList();
    }

    TypeMirror typeOf(Piece piece, Tree part) {
        return trees.getTypeMirror(new TreePath(piece.path, part));
    }

    boolean isInside(Piece piece, Tree.Kind... kinds) {
        for (TreePath above = piece.path.getParentPath(); above != null; above = above.getParentPath()) {
            if (List.of(kinds).contains(above.getLeaf().getKind())) {
                return true;
            }
        }
        return false;
    }

    /** Of how many calls the longest chain that begins with the method consists, itself included. */
    int depth(String method, int most) {
        int deepest = 0;
        for (String called : most == 0 ? Set.<String>of() : calls.getOrDefault(method, Set.of())) {
            deepest = Math.max(deepest, depth(called, most - 1));
        }
        return deepest + 1;
    }

    private final class Reading extends TreePathScanner<Void, Void> {
        private String inClass;
        private String inMethod;

        @Override
        public Void scan(Tree tree, Void nothing) {
            if (tree != null && getCurrentPath() != null) {
                long line = unit.getLineMap().getLineNumber(Math.max(0, trees.getSourcePositions().getStartPosition(unit, tree)));
                pieces.add(new Piece(tree, new TreePath(getCurrentPath(), tree), inClass, inMethod, line));
            }
            return super.scan(tree, nothing);
        }

        @Override
        public Void visitClass(ClassTree tree, Void nothing) {
            String outer = inClass;
            inClass = tree.getSimpleName().toString();
            super.visitClass(tree, nothing);
            inClass = outer;
            return null;
        }

        @Override
        public Void visitMethod(MethodTree tree, Void nothing) {
            boolean written = trees.getSourcePositions().getEndPosition(unit, tree) >= 0;
            if (written) {
                inMethod = tree.getName().contentEquals("<init>") ? "new" : tree.getName().toString();
                methods.put(inClass + "." + inMethod, new Method(inMethod, tree, lines(tree)));
                super.visitMethod(tree, nothing);
                inMethod = null;
            }
            return null;
        }

        @Override
        public Void visitMethodInvocation(MethodInvocationTree tree, Void nothing) {
            note(trees.getElement(new TreePath(getCurrentPath(), tree.getMethodSelect())));
            return super.visitMethodInvocation(tree, nothing);
        }

        @Override
        public Void visitNewClass(NewClassTree tree, Void nothing) {
            note(trees.getElement(getCurrentPath()));
            return super.visitNewClass(tree, nothing);
        }

        private void note(Element called) {
            Element owner = called == null ? null : called.getEnclosingElement();
            if (owner instanceof TypeElement type && !type.getQualifiedName().toString().startsWith("java.")) {
                String name = called.getKind() == ElementKind.CONSTRUCTOR ? "new" : called.getSimpleName().toString();
                String caller = inClass + "." + (inMethod == null ? "new" : inMethod);
                calls.computeIfAbsent(caller, key -> new LinkedHashSet<>()).add(type.getSimpleName() + "." + name);
            } else if (owner != null && !called.getSimpleName().contentEquals("<init>")) {
                libraryCalls.add(owner.getSimpleName() + "." + called.getSimpleName());
            }
        }

        private long lines(Tree tree) {
            long begin = unit.getLineMap().getLineNumber(trees.getSourcePositions().getStartPosition(unit, tree));
            return unit.getLineMap().getLineNumber(trees.getSourcePositions().getEndPosition(unit, tree)) - begin + 1;
        }
    }
}
