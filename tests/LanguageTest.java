import com.sun.source.tree.AssertTree;
import com.sun.source.tree.BinaryTree;
import com.sun.source.tree.BlockTree;
import com.sun.source.tree.CatchTree;
import com.sun.source.tree.ClassTree;
import com.sun.source.tree.CompilationUnitTree;
import com.sun.source.tree.ImportTree;
import com.sun.source.tree.LambdaExpressionTree;
import com.sun.source.tree.MemberReferenceTree;
import com.sun.source.tree.MethodInvocationTree;
import com.sun.source.tree.MethodTree;
import com.sun.source.tree.NewClassTree;
import com.sun.source.tree.SynchronizedTree;
import com.sun.source.tree.ThrowTree;
import com.sun.source.tree.Tree;
import com.sun.source.tree.TryTree;
import com.sun.source.tree.VariableTree;
import com.sun.source.util.JavacTask;
import com.sun.source.util.SourcePositions;
import com.sun.source.util.TreePathScanner;
import com.sun.source.util.Trees;
import java.io.File;
import java.io.IOException;
import java.util.HashMap;
import java.util.HashSet;
import java.util.LinkedHashMap;
import java.util.LinkedHashSet;
import java.util.Map;
import java.util.Set;
import javax.lang.model.element.Element;
import javax.lang.model.element.ElementKind;
import javax.lang.model.element.Modifier;
import javax.tools.JavaCompiler;
import javax.tools.StandardJavaFileManager;
import javax.tools.ToolProvider;

/** Holds the class against what can be read off its text in the rules of LANGUAGE.md. */
public final class LanguageTest {
    private static final Set<String> THROWN = Set.of("IllegalStateException", "IllegalArgumentException",
            "IndexOutOfBoundsException", "ArithmeticException", "UnsupportedOperationException",
            "NoSuchElementException", "RuntimeException");
    // Rule 4. Of Integer, Long and Math all static functions but the ones that end in Exact.
    private static final Map<String, Set<String>> LIBRARY = Map.of(
            "String", Set.of("length", "charAt", "isEmpty", "equals", "indexOf", "substring", "toCharArray", "<init>"),
            "StringBuilder", Set.of("<init>", "append", "charAt", "setCharAt", "setLength", "deleteCharAt", "reverse",
                    "length", "toString"),
            "ArrayList", Set.of("<init>", "add", "get", "set", "remove", "size", "isEmpty", "clear"),
            "List", Set.of("add", "get", "set", "remove", "size", "isEmpty", "clear", "of"),
            "System", Set.of("arraycopy"),
            "Arrays", Set.of("copyOf", "copyOfRange", "fill"),
            "Object", Set.of("<init>"),
            "Enum", Set.of("ordinal"));
    // "Some" sixty lines, twelve classes and twenty fields: a little more is no fault yet.
    private static final int MOST_LINES = 70, MOST_CLASSES = 14, MOST_FIELDS = 24;
    private static final int MOST_PARAMETERS = 7, MOST_DEPTH = 8;

    private final Map<Element, Set<Element>> calls = new LinkedHashMap<>();
    private final Map<Element, Integer> heights = new HashMap<>();
    private final Set<String> faces = new HashSet<>();
    private final Set<String> privates = new HashSet<>();
    private final Set<String> foreign = new LinkedHashSet<>();
    private Trees trees;
    private CompilationUnitTree unit;
    private int classes;

    private void read() throws IOException {
        JavaCompiler compiler = ToolProvider.getSystemJavaCompiler();
        StandardJavaFileManager files = compiler.getStandardFileManager(null, null, null);
        JavacTask task = (JavacTask) compiler.getTask(null, files, null, null, null,
                files.getJavaFileObjects(new File("src/main/java/SpinelessHall.java")));
        unit = task.parse().iterator().next();
        task.analyze();
        trees = Trees.instance(task);
        new Reader().scan(unit, null);
        for (ImportTree line : unit.getImports()) {
            String name = line.getQualifiedIdentifier().toString();
            Check.same("import of " + name + " (rule 4)", name.startsWith("java.util.") && !line.isStatic(), true);
        }
        Check.same("a package line", unit.getPackageName() == null, true);
        Check.same("classes (rule 11): " + classes, classes <= MOST_CLASSES, true);
    }

    private long line(long position) {
        return unit.getLineMap().getLineNumber(position);
    }

    private final class Reader extends TreePathScanner<Void, Void> {
        private Element method;

        private Element element() {
            return trees.getElement(getCurrentPath());
        }

        @Override
        public Void visitClass(ClassTree tree, Void none) {
            Element outer = method;
            method = null;
            classes++;
            int fields = 0;
            for (Tree member : tree.getMembers()) {
                if (member instanceof VariableTree v) {
                    boolean isStatic = v.getModifiers().getFlags().contains(Modifier.STATIC);
                    boolean isFinal = v.getModifiers().getFlags().contains(Modifier.FINAL);
                    fields += isStatic ? 0 : 1;
                    Check.same("static field " + v.getName() + " is final (rule 5)", !isStatic || isFinal, true);
                }
                boolean isStaticBlock = member instanceof BlockTree b && b.isStatic();
                Check.same("static initialiser block in " + tree.getSimpleName() + " (rule 5)", isStaticBlock, false);
            }
            Check.same("fields of " + tree.getSimpleName() + " (rule 11)", fields <= MOST_FIELDS, true);
            super.visitClass(tree, none);
            method = outer;
            return null;
        }

        @Override
        public Void visitMethod(MethodTree tree, Void none) {
            method = element();
            calls.put(method, new LinkedHashSet<>());
            SourcePositions places = trees.getSourcePositions();
            long lines = line(places.getEndPosition(unit, tree)) - line(places.getStartPosition(unit, tree)) + 1;
            Check.same("lines of " + method + " (rule 11): " + lines, lines <= MOST_LINES, true);
            Check.same("parameters of " + method + " (rule 11)", tree.getParameters().size() <= MOST_PARAMETERS, true);
            boolean isOfFace = method.getModifiers().contains(Modifier.PUBLIC)
                    && method.getEnclosingElement().getSimpleName().contentEquals("SpinelessHall");
            if (method.getKind() == ElementKind.METHOD) {
                (isOfFace ? faces : privates).add(tree.getName().toString());
            }
            super.visitMethod(tree, none);
            method = null;
            return null;
        }

        private void call(Element called) {
            Element owner = called.getEnclosingElement();
            if (owner.toString().startsWith("SpinelessHall")) {
                if (method != null) {
                    calls.get(method).add(called);
                }
                return;
            }
            String type = owner.getSimpleName().toString();
            String name = called.getSimpleName().toString();
            boolean isNumeric = Set.of("Integer", "Long", "Math").contains(type) && !name.endsWith("Exact");
            boolean isOfRow = name.equals("clone");
            boolean isMade = name.equals("<init>") && THROWN.contains(type);
            boolean isListed = LIBRARY.getOrDefault(type, Set.of()).contains(name);
            boolean isIterated = Set.of("Iterator", "Iterable", "Comparable").contains(type);
            if (!isNumeric && !isOfRow && !isMade && !isListed && !isIterated) {
                foreign.add(owner + "." + called);
            }
        }

        @Override
        public Void visitMethodInvocation(MethodInvocationTree tree, Void none) {
            call(element());
            return super.visitMethodInvocation(tree, none);
        }

        @Override
        public Void visitNewClass(NewClassTree tree, Void none) {
            call(element());
            return super.visitNewClass(tree, none);
        }

        @Override
        public Void visitThrow(ThrowTree tree, Void none) {
            boolean isNew = tree.getExpression() instanceof NewClassTree made
                    && THROWN.contains(made.getIdentifier().toString());
            boolean isInMethod = method != null && method.getKind() == ElementKind.METHOD;
            Check.same("throw in " + method + " (rule 6)", isNew && isInMethod, true);
            return super.visitThrow(tree, none);
        }

        @Override
        public Void visitTry(TryTree tree, Void none) {
            boolean isPlain = tree.getResources().isEmpty() && tree.getFinallyBlock() == null;
            Check.same("try in " + method + " (rule 6)", isPlain && !holdsThrow(), true);
            return super.visitTry(tree, none);
        }

        private boolean holdsThrow() {
            boolean[] holds = {false};
            new TreePathScanner<Void, Void>() {
                @Override
                public Void visitThrow(ThrowTree tree, Void none) {
                    holds[0] = true;
                    return null;
                }
            }.scan(trees.getPath(method), null);
            return holds[0];
        }

        @Override
        public Void visitCatch(CatchTree tree, Void none) {
            String caught = tree.getParameter().getType().toString();
            Check.same("catch of " + caught + " in " + method + " (rule 6)", THROWN.contains(caught), true);
            return super.visitCatch(tree, none);
        }

        @Override
        public Void visitBinary(BinaryTree tree, Void none) {
            if (tree.getKind() == Tree.Kind.PLUS) {
                boolean isText = trees.getTypeMirror(getCurrentPath()).toString().endsWith("String");
                Check.same("texts joined by + in " + method + " (rule 10)", isText, false);
            }
            return super.visitBinary(tree, none);
        }

        private Void refuse(String what) {
            Check.same(what + " in " + method, "there is one", "none");
            return null;
        }

        @Override
        public Void visitAssert(AssertTree tree, Void none) {
            return refuse("assert");
        }

        @Override
        public Void visitSynchronized(SynchronizedTree tree, Void none) {
            return refuse("synchronized");
        }

        @Override
        public Void visitLambdaExpression(LambdaExpressionTree tree, Void none) {
            return refuse("a lambda");
        }

        @Override
        public Void visitMemberReference(MemberReferenceTree tree, Void none) {
            return refuse("a method reference");
        }
    }

    private Set<Element> reachable(Element from) {
        Set<Element> reached = new LinkedHashSet<>();
        Set<Element> open = new LinkedHashSet<>(calls.getOrDefault(from, Set.of()));
        while (!open.isEmpty()) {
            Element next = open.iterator().next();
            open.remove(next);
            if (reached.add(next)) {
                open.addAll(calls.getOrDefault(next, Set.of()));
            }
        }
        return reached;
    }

    /** How many calls stand open at most when this is called, those of a recursion told as one. */
    private int height(Element from, Map<Element, Set<Element>> reached) {
        if (!heights.containsKey(from)) {
            int most = 0;
            for (Element called : calls.getOrDefault(from, Set.of())) {
                boolean isRecursion = reached.getOrDefault(called, Set.of()).contains(from);
                most = Math.max(most, isRecursion ? 0 : height(called, reached));
            }
            heights.put(from, most + 1);
        }
        return heights.get(from);
    }

    private void judge() {
        Map<Element, Set<Element>> reached = new HashMap<>();
        for (Element called : calls.keySet()) {
            reached.put(called, reachable(called));
        }
        for (Element called : calls.keySet()) {
            int height = height(called, reached);
            Check.same("calls open below " + called + " (rule 11): " + height, height <= MOST_DEPTH, true);
        }
        Check.same("the library's calls (rule 4)", foreign.toString(), "[]");
        privates.retainAll(faces);
        Check.same("private methods with a public one's name (rule 1)", privates.toString(), "[]");
    }

    public static void main(String[] args) throws IOException {
        LanguageTest test = new LanguageTest();
        test.read();
        test.judge();
        Check.end("LanguageTest");
    }
}
