import com.sun.source.tree.AssertTree;
import com.sun.source.tree.CatchTree;
import com.sun.source.tree.ClassTree;
import com.sun.source.tree.CompilationUnitTree;
import com.sun.source.tree.ImportTree;
import com.sun.source.tree.LambdaExpressionTree;
import com.sun.source.tree.MemberReferenceTree;
import com.sun.source.tree.MemberSelectTree;
import com.sun.source.tree.MethodInvocationTree;
import com.sun.source.tree.MethodTree;
import com.sun.source.tree.SynchronizedTree;
import com.sun.source.tree.ThrowTree;
import com.sun.source.tree.Tree;
import com.sun.source.tree.TryTree;
import com.sun.source.tree.VariableTree;
import com.sun.source.util.JavacTask;
import com.sun.source.util.TreePath;
import com.sun.source.util.TreePathScanner;
import com.sun.source.util.Trees;
import java.io.File;
import java.util.ArrayList;
import java.util.HashMap;
import java.util.HashSet;
import java.util.List;
import java.util.Map;
import java.util.Set;
import java.util.TreeMap;
import java.util.TreeSet;
import javax.lang.model.element.Element;
import javax.lang.model.element.ElementKind;
import javax.lang.model.element.Modifier;
import javax.tools.JavaCompiler;
import javax.tools.StandardJavaFileManager;
import javax.tools.ToolProvider;

/** What can be seen of LANGUAGE.md in the source: its forms, its library, its sizes. */
public final class LanguageTest {
    private static final String SOURCE = "src/main/java/BuoyVote.java";
    private static final Set<String> LIBRARY = Set.of("java.lang.System.arraycopy", "java.lang.String.indexOf",
        "java.lang.String.length", "java.lang.Math.abs", "java.lang.Math.max", "java.lang.Math.min",
        "java.lang.Integer.bitCount");
    private static final String FACE = "feed end fault text rule buoy boat law pull push row sing scrape wind hours years "
        + "undo log step run perform votes leader ahead soon round best game rests holds seen likes ask blown washed watch "
        + "fair buoys sways nearest fog needs heard middle image back count";

    private static int wrong;
    private static final Map<String, Set<String>> CALLS = new TreeMap<>();
    private static final Set<String> RECURSIVE = new TreeSet<>();

    public static void main(String[] args) throws Exception {
        JavaCompiler compiler = ToolProvider.getSystemJavaCompiler();
        StandardJavaFileManager files = compiler.getStandardFileManager(null, null, null);
        JavacTask task = (JavacTask) compiler.getTask(null, files, null, List.of("-proc:none"), null,
            files.getJavaFileObjects(new File(SOURCE)));
        CompilationUnitTree unit = task.parse().iterator().next();
        task.analyze();
        new Scanner(unit, Trees.instance(task)).scan(unit, null);
        depth();
        System.out.println(wrong == 0 ? "the language is kept" : wrong + " places outside the language");
        if (wrong != 0) {
            System.exit(1);
        }
    }

    private static void check(boolean right, String what) {
        if (!right) {
            wrong++;
            System.out.println(what);
        }
    }

    /** Calls that are no recursion go at most eight deep; what calls itself, by whatever way, is one level. */
    private static void depth() {
        Map<String, Set<String>> reached = new HashMap<>();
        for (String method : CALLS.keySet()) {
            Set<String> seen = new HashSet<>();
            List<String> queue = new ArrayList<>(CALLS.get(method));
            for (int i = 0; i < queue.size(); i++) {
                if (seen.add(queue.get(i))) {
                    queue.addAll(CALLS.getOrDefault(queue.get(i), Set.of()));
                }
            }
            reached.put(method, seen);
            if (seen.contains(method)) {
                RECURSIVE.add(method);
            }
        }
        check(RECURSIVE.stream().allMatch(m -> m.startsWith("Law.read")), "recursion: " + RECURSIVE);
        for (String method : CALLS.keySet()) {
            if (method.startsWith("BuoyVote.")) {
                List<String> chain = longest(method, reached, new ArrayList<>());
                check(chain.size() <= 8, "calls too deep: " + chain);
            }
        }
    }

    private static List<String> longest(String method, Map<String, Set<String>> reached, List<String> above) {
        List<String> best = new ArrayList<>();
        for (String called : CALLS.get(method)) {
            boolean again = reached.get(called).contains(method);
            if (!above.contains(called) && !called.equals(method)) {
                List<String> open = new ArrayList<>(above);
                open.add(method);
                List<String> chain = longest(called, reached, open);
                if (again && !chain.isEmpty()) {
                    chain.remove(0);
                }
                if (chain.size() > best.size()) {
                    best = chain;
                }
            }
        }
        best.add(0, method);
        return best;
    }

    private static final class Scanner extends TreePathScanner<Void, Void> {
        private final CompilationUnitTree unit;
        private final Trees trees;
        private int classes;

        Scanner(CompilationUnitTree unit, Trees trees) {
            this.unit = unit;
            this.trees = trees;
        }

        private long line(Tree tree) {
            return unit.getLineMap().getLineNumber(trees.getSourcePositions().getStartPosition(unit, tree));
        }

        private long lines(Tree tree) {
            long end = unit.getLineMap().getLineNumber(trees.getSourcePositions().getEndPosition(unit, tree));
            return end - line(tree) + 1;
        }

        @Override
        public Void visitImport(ImportTree tree, Void unused) {
            check(tree.getQualifiedIdentifier().toString().equals("java.util.NoSuchElementException"), "import " + tree);
            return super.visitImport(tree, unused);
        }

        @Override
        public Void visitClass(ClassTree tree, Void unused) {
            classes++;
            check(classes <= 12, "a class too many: " + tree.getSimpleName());
            Set<Modifier> flags = tree.getModifiers().getFlags();
            boolean outer = tree.getSimpleName().contentEquals("BuoyVote");
            check(flags.contains(Modifier.FINAL) && (outer ? flags.contains(Modifier.PUBLIC)
                : flags.contains(Modifier.STATIC) && flags.contains(Modifier.PRIVATE)), "class " + tree.getSimpleName());
            int fields = 0;
            for (Tree member : tree.getMembers()) {
                check(member.getKind() != Tree.Kind.BLOCK, "an initialiser block");
                if (member instanceof VariableTree field) {
                    Set<Modifier> own = field.getModifiers().getFlags();
                    check(!own.contains(Modifier.STATIC) || own.contains(Modifier.FINAL), "static " + field.getName());
                    fields += own.contains(Modifier.STATIC) ? 0 : 1;
                    boolean face = field.getName().contentEquals("NONE") || field.getName().contentEquals("HIDDEN");
                    check(!outer || own.contains(face ? Modifier.PUBLIC : Modifier.PRIVATE), "field " + field.getName());
                }
            }
            check(fields <= 20, "fields of " + tree.getSimpleName() + ": " + fields);
            return super.visitClass(tree, unused);
        }

        @Override
        public Void visitMethod(MethodTree tree, Void unused) {
            String name = tree.getName().toString();
            check(lines(tree) <= 60, name + " is long: " + lines(tree));
            check(tree.getParameters().size() <= 7, name + " takes too much");
            boolean outer = nameOf(trees.getElement(getCurrentPath())).startsWith("BuoyVote.");
            boolean open = tree.getModifiers().getFlags().contains(Modifier.PUBLIC);
            boolean face = List.of(FACE.split(" ")).contains(name) || outer && name.equals("<init>");
            check(open == face, name + " is public, or bears a public name");
            check(!outer || open || tree.getModifiers().getFlags().contains(Modifier.PRIVATE), name + " can be seen");
            CALLS.computeIfAbsent(nameOf(trees.getElement(getCurrentPath())), k -> new TreeSet<>());
            return super.visitMethod(tree, unused);
        }

        @Override
        public Void visitMethodInvocation(MethodInvocationTree tree, Void unused) {
            Element called = trees.getElement(getCurrentPath());
            String owner = called.getEnclosingElement().toString();
            if (owner.startsWith("BuoyVote")) {
                TreePath path = getCurrentPath();
                while (path.getLeaf().getKind() != Tree.Kind.METHOD) {
                    path = path.getParentPath();
                }
                CALLS.computeIfAbsent(nameOf(trees.getElement(path)), k -> new TreeSet<>()).add(nameOf(called));
            } else if (called.getKind() != ElementKind.CONSTRUCTOR) {
                check(LIBRARY.contains(owner + "." + called.getSimpleName()), "line " + line(tree) + ": " + tree);
            }
            return super.visitMethodInvocation(tree, unused);
        }

        private static String nameOf(Element method) {
            return method.getEnclosingElement().getSimpleName() + "." + method.getSimpleName();
        }

        @Override
        public Void visitThrow(ThrowTree tree, Void unused) {
            check(tree.getExpression().toString().equals("new NoSuchElementException()"), "line " + line(tree) + ": throw");
            return super.visitThrow(tree, unused);
        }

        @Override
        public Void visitLambdaExpression(LambdaExpressionTree tree, Void unused) {
            check(false, "line " + line(tree) + ": lambda");
            return null;
        }

        /** Of Integer, Long and Math the rules list functions alone, no constants. */
        @Override
        public Void visitMemberSelect(MemberSelectTree tree, Void unused) {
            Element named = trees.getElement(getCurrentPath());
            boolean ofLibrary = named != null && named.getKind() == ElementKind.FIELD
                && named.getEnclosingElement() != null && named.getEnclosingElement().toString().startsWith("java.");
            check(!ofLibrary, "line " + line(tree) + ": a constant of the library: " + tree);
            return super.visitMemberSelect(tree, unused);
        }

        @Override
        public Void visitMemberReference(MemberReferenceTree tree, Void unused) {
            check(false, "line " + line(tree) + ": method reference");
            return null;
        }

        @Override
        public Void visitTry(TryTree tree, Void unused) {
            check(false, "line " + line(tree) + ": try");
            return null;
        }

        @Override
        public Void visitCatch(CatchTree tree, Void unused) {
            check(false, "line " + line(tree) + ": catch");
            return null;
        }

        @Override
        public Void visitAssert(AssertTree tree, Void unused) {
            check(false, "line " + line(tree) + ": assert");
            return null;
        }

        @Override
        public Void visitSynchronized(SynchronizedTree tree, Void unused) {
            check(false, "line " + line(tree) + ": synchronized");
            return null;
        }
    }
}
