import com.sun.source.tree.AnnotationTree;
import com.sun.source.tree.AssertTree;
import com.sun.source.tree.CatchTree;
import com.sun.source.tree.ClassTree;
import com.sun.source.tree.CompilationUnitTree;
import com.sun.source.tree.ExpressionTree;
import com.sun.source.tree.ImportTree;
import com.sun.source.tree.LambdaExpressionTree;
import com.sun.source.tree.MemberReferenceTree;
import com.sun.source.tree.MethodInvocationTree;
import com.sun.source.tree.MethodTree;
import com.sun.source.tree.NewArrayTree;
import com.sun.source.tree.NewClassTree;
import com.sun.source.tree.SynchronizedTree;
import com.sun.source.tree.ThrowTree;
import com.sun.source.tree.Tree;
import com.sun.source.tree.TryTree;
import com.sun.source.tree.VariableTree;
import com.sun.source.util.JavacTask;
import com.sun.source.util.TreePath;
import com.sun.source.util.TreePathScanner;
import com.sun.source.util.Trees;
import java.lang.management.ManagementFactory;
import java.nio.file.Files;
import java.nio.file.Path;
import java.util.ArrayList;
import java.util.HashSet;
import java.util.LinkedHashMap;
import java.util.LinkedHashSet;
import java.util.List;
import java.util.Map;
import java.util.Set;
import java.util.TreeSet;
import javax.lang.model.element.Element;
import javax.lang.model.element.ElementKind;
import javax.lang.model.element.ExecutableElement;
import javax.lang.model.element.Modifier;
import javax.tools.JavaCompiler;
import javax.tools.StandardJavaFileManager;
import javax.tools.ToolProvider;

/** Looks at the program by the rules of LANGUAGE.md that can be seen in its text, and at what its calls make. */
public final class RulesTests {
    private static final Path DOC = Path.of("../shared/DOC.md");
    private static final Path MAIN = Path.of("src/main/java/ThreeTouched.java");
    private static final Set<String> LIBRARY = Set.of("Math.min", "Math.max", "Math.abs", "Integer.compare",
        "Long.compare", "System.arraycopy");

    private static int wrong = 0;

    private static void fault(String text) {
        wrong++;
        System.out.println(text);
    }

    public static void main(String[] args) throws Exception {
        JavaCompiler compiler = ToolProvider.getSystemJavaCompiler();
        StandardJavaFileManager files = compiler.getStandardFileManager(null, null, null);
        JavacTask task = (JavacTask) compiler.getTask(null, files, null, List.of("-proc:none"), null,
            files.getJavaFileObjects(MAIN));
        Iterable<? extends CompilationUnitTree> units = task.parse();
        task.analyze();
        for (CompilationUnitTree unit : units) {
            Scan scan = new Scan(unit, Trees.instance(task));
            scan.scan(unit, null);
            scan.conclude();
        }
        faceIsTheDocuments();
        textIsPlain();
        callsMakeNothing();
        System.out.println(wrong + " faults by the rules");
        if (wrong != 0) {
            System.exit(1);
        }
    }

    /** The public methods are, line by line, those of the document. */
    private static void faceIsTheDocuments() throws Exception {
        Set<String> want = new TreeSet<>();
        for (String line : Files.readAllLines(DOC)) {
            if (line.startsWith("    public ") && line.endsWith(";")) {
                want.add(line.strip().replace(";", ""));
            }
        }
        Set<String> got = new TreeSet<>();
        for (String line : Files.readAllLines(MAIN)) {
            if (line.startsWith("    public ") && line.endsWith("{")) {
                got.add(line.strip().replace(" {", ""));
            }
        }
        if (!want.equals(got) || want.size() != 43) {
            fault("the face isn't the document's: " + got + " for " + want);
        }
    }

    private static void textIsPlain() throws Exception {
        String text = Files.readString(MAIN);
        for (int i = 0; i < text.length(); i++) {
            if (text.charAt(i) > 126) {
                fault("a sign above 126 at " + i);
            }
        }
        if (text.contains("Exact(") || text.contains("double") || text.contains("float ")) {
            fault("an Exact function, a double or a float");
        }
    }

    /** A whole life of the dearest calls makes no object. */
    private static void callsMakeNothing() {
        com.sun.management.ThreadMXBean bean = (com.sun.management.ThreadMXBean) ManagementFactory.getThreadMXBean();
        long least = Long.MAX_VALUE;
        for (int n = 0; n < 20; n++) {
            ThreeTouched x = new ThreeTouched();
            long thread = Thread.currentThread().getId();
            long before = bean.getThreadAllocatedBytes(thread);
            live(x);
            least = Math.min(least, bean.getThreadAllocatedBytes(thread) - before);
        }
        if (least > 2000) {
            fault("512 calls make " + least + " bytes");
        }
    }

    private static void live(ThreeTouched x) {
        x.round(0, 0, 1);
        x.round(5, 0, 2);
        x.round(1, 4, 1);
        for (int n = 0; n < 25; n++) {
            x.change(0, 1, n % 3);
            x.answers(0);
            x.best(0);
            x.rank(n % 8);
            x.touches(n % 8, 1);
            x.put(n % 6, n % 8, 2);
            x.compare(n % 6, 0);
            x.work(0, 1, 0, n % 4);
            x.sheet(0, 2, 40);
            x.lays(0, 1);
            x.invert(0, 1, 2, 3);
            x.tell(0);
            x.image();
            x.back();
            x.draw();
            x.root(1, 999999 - n);
            x.turn();
            x.radical(0, 1, 2);
        }
    }

    private static final class Scan extends TreePathScanner<Void, Void> {
        private final CompilationUnitTree unit;
        private final Trees trees;
        private final Map<Element, Set<Element>> calls = new LinkedHashMap<>();
        private final Set<String> publics = new HashSet<>();
        private final Set<String> privates = new HashSet<>();
        private int classes;
        private Element method;
        private boolean mayMake;

        Scan(CompilationUnitTree unit, Trees trees) {
            this.unit = unit;
            this.trees = trees;
        }

        private long line(long at) {
            return unit.getLineMap().getLineNumber(at);
        }

        private void refuse(Tree tree, String what) {
            fault("line " + line(trees.getSourcePositions().getStartPosition(unit, tree)) + ": " + what);
        }

        @Override
        public Void visitClass(ClassTree tree, Void v) {
            classes++;
            Element element = trees.getElement(getCurrentPath());
            boolean top = element.getEnclosingElement().getKind() == ElementKind.PACKAGE;
            if (!top && !element.getModifiers().contains(Modifier.STATIC)) {
                refuse(tree, "an inner class that isn't static");
            }
            int fields = 0;
            for (Tree member : tree.getMembers()) {
                if (member instanceof VariableTree field) {
                    Set<Modifier> modifiers = field.getModifiers().getFlags();
                    boolean fixed = modifiers.contains(Modifier.STATIC);
                    if (fixed && !modifiers.contains(Modifier.FINAL)) {
                        refuse(member, "a static field that isn't final");
                    }
                    if (top && !modifiers.contains(Modifier.PRIVATE)) {
                        refuse(member, "a field that isn't private");
                    }
                    fields += fixed ? 0 : 1;
                } else if (member.getKind() == Tree.Kind.BLOCK) {
                    refuse(member, "an initialiser block");
                }
            }
            if (fields > 20) {
                refuse(tree, fields + " fields");
            }
            return super.visitClass(tree, v);
        }

        @Override
        public Void visitMethod(MethodTree tree, Void v) {
            method = trees.getElement(getCurrentPath());
            calls.putIfAbsent(method, new LinkedHashSet<>());
            boolean constructor = method.getKind() == ElementKind.CONSTRUCTOR;
            if (method.getModifiers().contains(Modifier.PUBLIC)) {
                publics.add(tree.getName().toString());
            } else if (!constructor) {
                privates.add(tree.getName().toString());
            }
            if (tree.getParameters().size() > 7) {
                refuse(tree, "more than seven parameters");
            }
            long start = trees.getSourcePositions().getStartPosition(unit, tree);
            long end = trees.getSourcePositions().getEndPosition(unit, tree);
            if (end > start && line(end) - line(start) >= 60) {
                refuse(tree, "a method of more than sixty lines");
            }
            mayMake = constructor;
            super.visitMethod(tree, v);
            method = null;
            mayMake = true;
            return null;
        }

        @Override
        public Void visitMethodInvocation(MethodInvocationTree tree, Void v) {
            Element called = trees.getElement(getCurrentPath());
            ExpressionTree select = tree.getMethodSelect();
            if (called instanceof ExecutableElement) {
                String owner = called.getEnclosingElement().toString();
                boolean own = owner.startsWith("ThreeTouched");
                if (!own && called.getKind() == ElementKind.METHOD && !LIBRARY.contains(select.toString())) {
                    refuse(tree, "a library call: " + select);
                }
                if (method != null) {
                    calls.get(method).add(called);
                }
            }
            return super.visitMethodInvocation(tree, v);
        }

        @Override
        public Void visitNewClass(NewClassTree tree, Void v) {
            if (tree.getClassBody() != null) {
                refuse(tree, "an anonymous class");
            }
            if (method != null && !mayMake) {
                refuse(tree, "an object made outside of a constructor");
            }
            for (ExpressionTree argument : tree.getArguments()) {
                if (isOfObject(argument)) {
                    refuse(tree, "a constructor hands out " + argument);
                }
            }
            return super.visitNewClass(tree, v);
        }

        /** Whether an expression is this, or a field of it: what a constructor may not hand to another class. */
        private boolean isOfObject(ExpressionTree argument) {
            Element named = trees.getElement(new TreePath(getCurrentPath(), argument));
            return named != null && named.getKind() == ElementKind.FIELD && !named.getModifiers().contains(Modifier.STATIC)
                || argument.toString().equals("this");
        }

        @Override
        public Void visitNewArray(NewArrayTree tree, Void v) {
            if (method != null && !mayMake) {
                refuse(tree, "an array made outside of a constructor");
            }
            return super.visitNewArray(tree, v);
        }

        @Override
        public Void visitImport(ImportTree tree, Void v) {
            refuse(tree, "an import");
            return super.visitImport(tree, v);
        }

        @Override
        public Void visitThrow(ThrowTree tree, Void v) {
            refuse(tree, "throw");
            return super.visitThrow(tree, v);
        }

        @Override
        public Void visitTry(TryTree tree, Void v) {
            refuse(tree, "try");
            return super.visitTry(tree, v);
        }

        @Override
        public Void visitCatch(CatchTree tree, Void v) {
            refuse(tree, "catch");
            return super.visitCatch(tree, v);
        }

        @Override
        public Void visitSynchronized(SynchronizedTree tree, Void v) {
            refuse(tree, "synchronized");
            return super.visitSynchronized(tree, v);
        }

        @Override
        public Void visitAssert(AssertTree tree, Void v) {
            refuse(tree, "assert");
            return super.visitAssert(tree, v);
        }

        @Override
        public Void visitLambdaExpression(LambdaExpressionTree tree, Void v) {
            refuse(tree, "a lambda");
            return super.visitLambdaExpression(tree, v);
        }

        @Override
        public Void visitMemberReference(MemberReferenceTree tree, Void v) {
            refuse(tree, "a method reference");
            return super.visitMemberReference(tree, v);
        }

        @Override
        public Void visitAnnotation(AnnotationTree tree, Void v) {
            refuse(tree, "an annotation");
            return super.visitAnnotation(tree, v);
        }

        void conclude() {
            if (classes > 12) {
                fault(classes + " classes");
            }
            for (String name : privates) {
                if (publics.contains(name)) {
                    fault("a method beside the face bears the name " + name);
                }
            }
            List<String> deepest = new ArrayList<>();
            for (Element from : calls.keySet()) {
                List<String> chain = chain(from, 0);
                if (chain.size() > deepest.size()) {
                    deepest = chain;
                }
            }
            System.out.println("the deepest calls: " + deepest);
            if (deepest.size() > 8) {
                fault("calls go " + deepest.size() + " deep");
            }
        }

        private List<String> chain(Element from, int depth) {
            List<String> longest = new ArrayList<>();
            if (depth > 40) {
                fault("calls that come round");
                return longest;
            }
            for (Element to : calls.getOrDefault(from, Set.of())) {
                List<String> chain = chain(to, depth + 1);
                if (chain.size() > longest.size()) {
                    longest = chain;
                }
            }
            longest.add(0, from.getEnclosingElement().getSimpleName() + "." + from.getSimpleName());
            return longest;
        }
    }
}
