import com.sun.source.tree.AssertTree;
import com.sun.source.tree.BinaryTree;
import com.sun.source.tree.CatchTree;
import com.sun.source.tree.ClassTree;
import com.sun.source.tree.CompilationUnitTree;
import com.sun.source.tree.LambdaExpressionTree;
import com.sun.source.tree.MemberReferenceTree;
import com.sun.source.tree.MethodInvocationTree;
import com.sun.source.tree.MethodTree;
import com.sun.source.tree.NewClassTree;
import com.sun.source.tree.SynchronizedTree;
import com.sun.source.tree.ThrowTree;
import com.sun.source.tree.Tree;
import com.sun.source.tree.TryTree;
import com.sun.source.tree.VariableTree;
import com.sun.source.util.JavacTask;
import com.sun.source.util.SourcePositions;
import com.sun.source.util.TreeScanner;
import com.sun.source.util.Trees;
import java.io.File;
import java.io.IOException;
import java.util.HashMap;
import java.util.HashSet;
import java.util.LinkedHashMap;
import java.util.LinkedHashSet;
import java.util.Map;
import java.util.Set;
import javax.lang.model.element.Element;
import javax.lang.model.element.Modifier;
import javax.tools.JavaCompiler;
import javax.tools.StandardJavaFileManager;
import javax.tools.ToolProvider;

/** Holds the class against what can be read off its text in the rules of LANGUAGE.md. */
public final class LanguageTest {
    private static final Set<String> THROWN = Set.of("IllegalStateException", "IllegalArgumentException",
            "IndexOutOfBoundsException");

    private final Map<String, Set<String>> calls = new LinkedHashMap<>();
    private final Map<String, Integer> heights = new HashMap<>();
    private final Set<String> faces = new HashSet<>();
    private final Set<String> privates = new HashSet<>();
    private final Set<String> foreign = new LinkedHashSet<>();
    private Trees trees;
    private CompilationUnitTree unit;
    private int classes;

    private void read() throws IOException {
        JavaCompiler compiler = ToolProvider.getSystemJavaCompiler();
        StandardJavaFileManager files = compiler.getStandardFileManager(null, null, null);
        JavacTask task = (JavacTask) compiler.getTask(null, files, null, null, null,
                files.getJavaFileObjects(new File("src/main/java/SpinelessHall.java")));
        unit = task.parse().iterator().next();
        task.analyze();
        trees = Trees.instance(task);
        unit.accept(new Reader(), null);
        Check.same("imports", unit.getImports().size(), 0);
        Check.same("classes (rule 11)", classes <= 12, true);
    }

    private long line(long position) {
        return unit.getLineMap().getLineNumber(position);
    }

    private final class Reader extends TreeScanner<Void, Void> {
        private String type = "";
        private String method = "";

        private Element element(Tree tree) {
            return trees.getElement(trees.getPath(unit, tree));
        }

        @Override
        public Void visitClass(ClassTree tree, Void none) {
            String outer = type;
            type = tree.getSimpleName().toString();
            classes++;
            int fields = 0;
            for (Tree member : tree.getMembers()) {
                if (member instanceof VariableTree v) {
                    boolean isStatic = v.getModifiers().getFlags().contains(Modifier.STATIC);
                    boolean isFinal = v.getModifiers().getFlags().contains(Modifier.FINAL);
                    fields += isStatic ? 0 : 1;
                    Check.same("static field " + v.getName() + " is final", !isStatic || isFinal, true);
                }
                Check.same("initialiser block in " + type, member.getKind() == Tree.Kind.BLOCK, false);
            }
            Check.same("fields of " + type + " (rule 11)", fields <= 20, true);
            super.visitClass(tree, none);
            type = outer;
            return null;
        }

        @Override
        public Void visitMethod(MethodTree tree, Void none) {
            method = type + "." + tree.getName();
            Check.same("two methods are named " + method, calls.containsKey(method), false);
            calls.put(method, new LinkedHashSet<>());
            SourcePositions places = trees.getSourcePositions();
            long lines = line(places.getEndPosition(unit, tree)) - line(places.getStartPosition(unit, tree)) + 1;
            Check.same("lines of " + method + " (rule 11): " + lines, lines <= 60, true);
            Check.same("parameters of " + method + " (rule 11)", tree.getParameters().size() <= 7, true);
            boolean isPublic = tree.getModifiers().getFlags().contains(Modifier.PUBLIC);
            (isPublic ? faces : privates).add(tree.getName().toString());
            super.visitMethod(tree, none);
            method = "";
            return null;
        }

        private void call(Element called) {
            Element owner = called.getEnclosingElement();
            boolean isOwn = owner.toString().startsWith("SpinelessHall");
            if (!isOwn) {
                if (!THROWN.contains(owner.getSimpleName().toString()) && !owner.toString().endsWith("Object")) {
                    foreign.add(owner + "." + called);
                }
            } else if (!method.isEmpty()) {
                calls.get(method).add(owner.getSimpleName() + "." + called.getSimpleName());
            }
        }

        @Override
        public Void visitMethodInvocation(MethodInvocationTree tree, Void none) {
            call(element(tree));
            return super.visitMethodInvocation(tree, none);
        }

        @Override
        public Void visitNewClass(NewClassTree tree, Void none) {
            call(element(tree));
            return super.visitNewClass(tree, none);
        }

        @Override
        public Void visitThrow(ThrowTree tree, Void none) {
            boolean isNew = tree.getExpression() instanceof NewClassTree made
                    && THROWN.contains(made.getIdentifier().toString());
            Check.same("throw in " + method + " (rule 6)", isNew && !method.endsWith("<init>"), true);
            return super.visitThrow(tree, none);
        }

        @Override
        public Void visitBinary(BinaryTree tree, Void none) {
            if (tree.getKind() == Tree.Kind.PLUS) {
                boolean isText = trees.getTypeMirror(trees.getPath(unit, tree)).toString().endsWith("String");
                Check.same("texts joined by + in " + method + " (rule 10)", isText, false);
            }
            return super.visitBinary(tree, none);
        }

        private Void refuse(String what) {
            Check.same(what + " in " + method, "there is one", "none");
            return null;
        }

        @Override
        public Void visitTry(TryTree tree, Void none) {
            return refuse("try");
        }

        @Override
        public Void visitCatch(CatchTree tree, Void none) {
            return refuse("catch");
        }

        @Override
        public Void visitAssert(AssertTree tree, Void none) {
            return refuse("assert");
        }

        @Override
        public Void visitSynchronized(SynchronizedTree tree, Void none) {
            return refuse("synchronized");
        }

        @Override
        public Void visitLambdaExpression(LambdaExpressionTree tree, Void none) {
            return refuse("a lambda");
        }

        @Override
        public Void visitMemberReference(MemberReferenceTree tree, Void none) {
            return refuse("a method reference");
        }
    }

    /** How many calls stand open at most when this is called; calls in a circle have no end. */
    private int height(String method, Set<String> open) {
        Check.same("recursion through " + method + " (rule 8)", open.contains(method), false);
        if (open.contains(method) || !calls.containsKey(method)) {
            return 1;
        }
        if (!heights.containsKey(method)) {
            Set<String> more = new HashSet<>(open);
            more.add(method);
            int most = 0;
            for (String called : calls.get(method)) {
                most = Math.max(most, height(called, more));
            }
            heights.put(method, most + 1);
        }
        return heights.get(method);
    }

    private void judge() {
        for (String method : calls.keySet()) {
            int height = height(method, Set.of());
            Check.same("calls open below " + method + " (rule 11): " + height, height <= 8, true);
        }
        Check.same("the library's calls", foreign.toString(), "[]");
        privates.retainAll(faces);
        privates.remove("<init>");
        Check.same("private methods with a public one's name (rule 1)", privates.toString(), "[]");
    }

    public static void main(String[] args) throws IOException {
        LanguageTest test = new LanguageTest();
        test.read();
        test.judge();
        Check.end("LanguageTest");
    }
}
