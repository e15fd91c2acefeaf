import com.sun.source.tree.ArrayTypeTree;
import com.sun.source.tree.ClassTree;
import com.sun.source.tree.CompilationUnitTree;
import com.sun.source.tree.LambdaExpressionTree;
import com.sun.source.tree.MemberReferenceTree;
import com.sun.source.tree.MethodInvocationTree;
import com.sun.source.tree.MethodTree;
import com.sun.source.tree.NewArrayTree;
import com.sun.source.tree.NewClassTree;
import com.sun.source.tree.Tree;
import com.sun.source.tree.TypeCastTree;
import com.sun.source.tree.VariableTree;
import com.sun.source.util.JavacTask;
import com.sun.source.util.TreePath;
import com.sun.source.util.TreePathScanner;
import com.sun.source.util.Trees;
import java.io.File;
import java.util.ArrayDeque;
import java.util.Deque;
import java.util.List;
import java.util.Map;
import java.util.Set;
import java.util.TreeMap;
import java.util.TreeSet;
import javax.lang.model.element.Element;
import javax.lang.model.element.ElementKind;
import javax.lang.model.element.ExecutableElement;
import javax.lang.model.type.TypeMirror;
import javax.tools.JavaCompiler;
import javax.tools.StandardJavaFileManager;
import javax.tools.ToolProvider;

/** Rules of LANGUAGE.md that need to know which method a call goes to and of which type a thing is. */
public final class CallsTest {
    private static final Set<String> LIBRARY = Set.of("Math.min(int,int)", "Math.max(int,int)", "Math.min(long,long)",
        "Math.max(long,long)", "Long.bitCount(long)", "Arrays.fill(int[],int)", "Arrays.copyOf(int[],int)",
        "String.length()", "String.charAt(int)", "String.indexOf(int)", "Object.Object()");
    private static final Set<String> COPIED = Set.of("int[]", "long[]");
    private static final Set<String> PLAIN = Set.of("int", "long", "boolean", "char", "void", "int[]", "long[]",
        "java.lang.String");

    private final Dues d = new Dues();
    private final Map<String, Set<String>> calls = new TreeMap<>();
    private final Set<String> faces = new TreeSet<>();

    public static void main(String[] args) throws Exception {
        CallsTest t = new CallsTest();
        t.readSource();
        t.depths();
        t.recursions();
        t.d.end("CallsTest");
    }

    private void readSource() throws Exception {
        JavaCompiler compiler = ToolProvider.getSystemJavaCompiler();
        try (StandardJavaFileManager files = compiler.getStandardFileManager(null, null, null)) {
            JavacTask task = (JavacTask) compiler.getTask(null, files, null, List.of("-proc:none"), null,
                files.getJavaFileObjects(new File("src/main/java/BehindWall.java")));
            Iterable<? extends CompilationUnitTree> units = task.parse();
            task.analyze();
            for (CompilationUnitTree unit : units) {
                new Reader(Trees.instance(task)).scan(unit, null);
            }
        }
        d.dueTrue("the source was read: " + faces.size() + " calls of the face", faces.size() == 47);
    }

    /** Looks at each tree of the source, and gathers which method calls which. */
    private final class Reader extends TreePathScanner<Void, Void> {
        private final Trees trees;
        private final Deque<String> inside = new ArrayDeque<>();

        Reader(Trees trees) {
            this.trees = trees;
        }

        private Element element(Tree tree) {
            return trees.getElement(new TreePath(getCurrentPath(), tree));
        }

        private TypeMirror type(Tree tree) {
            return trees.getTypeMirror(new TreePath(getCurrentPath(), tree));
        }

        @Override
        public Void visitMethod(MethodTree tree, Void v) {
            Element me = trees.getElement(getCurrentPath());
            String name = name(me);
            calls.putIfAbsent(name, new TreeSet<>());
            if (me.getModifiers().toString().contains("public")) {
                faces.add(name);
            }
            if (tree.getReturnType() != null) {
                plain("what " + name + " answers", type(tree.getReturnType()));
            }
            inside.push(name);
            super.visitMethod(tree, v);
            inside.pop();
            return null;
        }

        @Override
        public Void visitMethodInvocation(MethodInvocationTree tree, Void v) {
            Element called = element(tree.getMethodSelect());
            String name = name(called);
            if (isOwn(called)) {
                calls.get(inside.peek()).add(name);
            } else if (name.startsWith("System.arraycopy(")) {
                for (int i : new int[] {0, 2}) {
                    String of = type(tree.getArguments().get(i)).toString();
                    d.dueTrue("rule 4: arrays of numbers are copied, not " + of + ", in " + inside.peek(), COPIED.contains(of));
                }
            } else {
                d.dueTrue("rule 4: " + name + " in " + inside.peek(), LIBRARY.contains(name));
            }
            return super.visitMethodInvocation(tree, v);
        }

        @Override
        public Void visitNewClass(NewClassTree tree, Void v) {
            Element made = trees.getElement(getCurrentPath());
            d.dueTrue("rule 4: only own classes are made, not " + made, isOwn(made));
            if (!inside.isEmpty()) {
                calls.get(inside.peek()).add(name(made));
            }
            return super.visitNewClass(tree, v);
        }

        @Override
        public Void visitNewArray(NewArrayTree tree, Void v) {
            if (inside.isEmpty()) {
                return super.visitNewArray(tree, v);
            }
            d.dueTrue("rule 12: an array is made in " + inside.peek(), inside.peek().startsWith("Text.Text("));
            return super.visitNewArray(tree, v);
        }

        @Override
        public Void visitVariable(VariableTree tree, Void v) {
            Element me = trees.getElement(getCurrentPath());
            TypeMirror of = me.asType();
            plain("rule 3: " + tree.getName(), of);
            boolean still = me.getModifiers().toString().contains("static");
            if (me.getKind() == ElementKind.FIELD && still) {
                d.dueTrue("rule 5: " + tree.getName() + " is a constant, or written out",
                    Set.of("int", "long", "int[]", "long[]").contains(of.toString()) && tree.getInitializer() != null
                        && me.getModifiers().toString().contains("final"));
            }
            return super.visitVariable(tree, v);
        }

        @Override
        public Void visitArrayType(ArrayTypeTree tree, Void v) {
            d.dueTrue("rule 3: one dimension, not " + tree, !(tree.getType() instanceof ArrayTypeTree));
            return super.visitArrayType(tree, v);
        }

        @Override
        public Void visitTypeCast(TypeCastTree tree, Void v) {
            String to = tree.getType().toString();
            d.dueTrue("rule 6: no cast to " + to, Set.of("int", "long", "short", "char").contains(to));
            return super.visitTypeCast(tree, v);
        }

        @Override
        public Void visitClass(ClassTree tree, Void v) {
            if (!tree.getSimpleName().contentEquals("BehindWall")) {
                d.dueTrue("rule 2: " + tree.getSimpleName() + " is static",
                    tree.getModifiers().getFlags().toString().contains("static"));
                d.dueTrue("rule 2: no class within " + inside, inside.isEmpty());
            }
            return super.visitClass(tree, v);
        }

        @Override
        public Void visitLambdaExpression(LambdaExpressionTree tree, Void v) {
            d.dueTrue("rule 2: no lambda " + tree, false);
            return super.visitLambdaExpression(tree, v);
        }

        @Override
        public Void visitMemberReference(MemberReferenceTree tree, Void v) {
            d.dueTrue("rule 2: no method reference " + tree, false);
            return super.visitMemberReference(tree, v);
        }

        private void plain(String what, TypeMirror of) {
            String told = of.toString();
            d.dueTrue(what + " is of type " + told, PLAIN.contains(told) || told.startsWith("BehindWall."));
        }
    }

    private static boolean isOwn(Element e) {
        for (Element at = e; at != null; at = at.getEnclosingElement()) {
            if (at.getKind() == ElementKind.CLASS && at.toString().equals("BehindWall")) {
                return true;
            }
        }
        return false;
    }

    private static String name(Element e) {
        ExecutableElement method = (ExecutableElement) e;
        String of = method.getEnclosingElement().getSimpleName().toString();
        StringBuilder types = new StringBuilder();
        method.getParameters().forEach(p -> types.append(types.length() == 0 ? "" : ",").append(p.asType()));
        String called = method.getKind() == ElementKind.CONSTRUCTOR ? of : method.getSimpleName().toString();
        return of + "." + called + "(" + types + ")";
    }

    /** Rule 11: calls that are no recursion go at most eight deep, the call of the face being the first. */
    private void depths() {
        for (String face : faces) {
            Deque<String> way = deepest(face, new ArrayDeque<>());
            d.dueTrue("rule 11: " + way.size() + " deep: " + way, way.size() <= 8);
        }
    }

    private Deque<String> deepest(String from, Deque<String> open) {
        Deque<String> best = new ArrayDeque<>();
        open.push(from);
        for (String to : calls.getOrDefault(from, Set.of())) {
            if (!open.contains(to)) {
                Deque<String> way = deepest(to, open);
                best = way.size() > best.size() ? way : best;
            }
        }
        open.pop();
        best.push(from);
        return best;
    }

    /** Rule 8: only what reads a TEXT calls itself, and it carries how many ( and ! are open. */
    private void recursions() {
        for (String from : calls.keySet()) {
            Set<String> reached = new TreeSet<>();
            Deque<String> todo = new ArrayDeque<>(calls.get(from));
            while (!todo.isEmpty()) {
                String at = todo.pop();
                if (reached.add(at)) {
                    todo.addAll(calls.getOrDefault(at, Set.of()));
                }
            }
            boolean reads = from.equals("Tape.join(int,int,int)") || from.equals("Tape.readPiece(int,int)");
            d.dueTrue("rule 8: " + from + " calls itself or doesn't", reached.contains(from) == reads);
        }
    }
}
