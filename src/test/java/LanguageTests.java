import com.sun.source.tree.AssertTree;
import com.sun.source.tree.CatchTree;
import com.sun.source.tree.ClassTree;
import com.sun.source.tree.CompilationUnitTree;
import com.sun.source.tree.LambdaExpressionTree;
import com.sun.source.tree.MemberReferenceTree;
import com.sun.source.tree.MethodInvocationTree;
import com.sun.source.tree.MethodTree;
import com.sun.source.tree.NewArrayTree;
import com.sun.source.tree.NewClassTree;
import com.sun.source.tree.SynchronizedTree;
import com.sun.source.tree.ThrowTree;
import com.sun.source.tree.Tree;
import com.sun.source.tree.TryTree;
import com.sun.source.tree.VariableTree;
import com.sun.source.util.JavacTask;
import com.sun.source.util.TreePath;
import com.sun.source.util.TreePathScanner;
import com.sun.source.util.Trees;
import java.io.IOException;
import java.lang.reflect.Constructor;
import java.lang.reflect.Field;
import java.lang.reflect.Method;
import java.lang.reflect.Modifier;
import java.nio.file.Path;
import java.util.ArrayList;
import java.util.HashMap;
import java.util.HashSet;
import java.util.List;
import java.util.Map;
import java.util.Set;
import java.util.TreeSet;
import javax.lang.model.element.Element;
import javax.lang.model.element.ElementKind;
import javax.lang.model.element.ExecutableElement;
import javax.tools.JavaCompiler;
import javax.tools.StandardJavaFileManager;
import javax.tools.ToolProvider;

/** Holds src/main/java/LetterHeirs.java against the rules of LANGUAGE.md that can be seen from outside. */
public final class LanguageTests {
    private static final String FACE = "at(int,int) best(int,int) book(int,int) days(int) deed(int,int) duel(int,int,int) dumb() end(int) "
        + "fault(int) feed(int,int,int,int,int) give(int,int) hand(int) image(boolean) inherit(int,int,int) kin(int,int) "
        + "lend(int,int,int,int) letter(int,int) look(int) of(int,int) own(int,int) part(int,int) person(int,int,int) "
        + "set(int,int,int) sign(int,int) silent(int) state(int) text(int,int) trace(int,int) undo() wed(int,int) "
        + "weddings(int,int,int) whenCan(int,int) worth(int,int,int)";
    private static final Set<String> LIBRARY = Set.of("java.lang.String.length", "java.lang.String.charAt", "java.lang.String.indexOf",
        "java.lang.System.arraycopy", "java.lang.Integer.bitCount", "java.lang.Math.max", "java.lang.Math.min");
    private static final int MOST_LINES = 60;
    private static final int MOST_PARAMETERS = 7;
    private static final int MOST_CLASSES = 12;
    private static final int MOST_FIELDS = 21;
    private static final int MOST_DEEP = 8;
    private static final Checks t = new Checks();

    public static void main(String[] args) throws IOException {
        face();
        source(Path.of("src/main/java/LetterHeirs.java"));
        t.close("LanguageTests");
    }

    /** Rules 1 and 2. */
    private static void face() {
        TreeSet<String> names = new TreeSet<>();
        Set<String> simple = new HashSet<>();
        for (Method m : LetterHeirs.class.getDeclaredMethods()) {
            if (Modifier.isPrivate(m.getModifiers())) continue;
            t.due(m + " is public", Modifier.isPublic(m.getModifiers()), true);
            List<String> types = new ArrayList<>();
            for (Class<?> type : m.getParameterTypes()) types.add(type.getName());
            names.add(m.getName() + "(" + String.join(",", types) + ")");
            simple.add(m.getName());
        }
        t.due("the face is " + String.join(" ", names), String.join(" ", names).equals(FACE), true);
        t.due("the class is public and final", LetterHeirs.class.getModifiers(), Modifier.PUBLIC | Modifier.FINAL);
        Constructor<?>[] constructors = LetterHeirs.class.getDeclaredConstructors();
        t.due("constructors", constructors.length, 1);
        t.due("it is public", constructors[0].getModifiers(), Modifier.PUBLIC);
        for (Field f : LetterHeirs.class.getDeclaredFields()) {
            boolean is = f.getName().equals("NONE") ? Modifier.isPublic(f.getModifiers()) : Modifier.isPrivate(f.getModifiers());
            t.due(f + " is private", is, true);
        }
        for (Class<?> c : LetterHeirs.class.getDeclaredClasses()) {
            t.due(c + " is static", Modifier.isStatic(c.getModifiers()), true);
            t.due(c + " is not public", c.getModifiers() & (Modifier.PUBLIC | Modifier.PROTECTED), 0);
        }
        for (Class<?> c : allClasses()) {
            for (Method m : c.getDeclaredMethods()) {
                boolean bears = Modifier.isPrivate(m.getModifiers()) && simple.contains(m.getName());
                t.due(m + " bears a public one's name", bears, false);
            }
            fields(c);
        }
    }

    private static List<Class<?>> allClasses() {
        List<Class<?>> all = new ArrayList<>(List.of(LetterHeirs.class.getDeclaredClasses()));
        all.add(LetterHeirs.class);
        t.due("at most twelve classes", all.size() <= MOST_CLASSES, true);
        return all;
    }

    /** Rules 5 and 11. */
    private static void fields(Class<?> c) {
        int own = 0;
        for (Field f : c.getDeclaredFields()) {
            if (!Modifier.isStatic(f.getModifiers())) {
                own++;
                continue;
            }
            t.due(f + " is final", Modifier.isFinal(f.getModifiers()), true);
            t.due(f + " is a constant", f.getType() == int.class || f.getType() == String.class, true);
        }
        t.due(c + " has " + own + " fields", own <= MOST_FIELDS, true);
    }

    private static void source(Path path) throws IOException {
        JavaCompiler compiler = ToolProvider.getSystemJavaCompiler();
        try (StandardJavaFileManager files = compiler.getStandardFileManager(null, null, null)) {
            JavacTask task = (JavacTask) compiler.getTask(null, files, null, List.of("-proc:none"), null, files.getJavaFileObjects(path));
            CompilationUnitTree unit = task.parse().iterator().next();
            task.analyze();
            Scan scan = new Scan(Trees.instance(task), unit);
            scan.scan(unit, null);
            scan.depths();
        }
    }

    /** Rules 4, 6, 8, 11 and 12. Made stricter here: objects and arrays are made where fields are set alone. */
    private static final class Scan extends TreePathScanner<Void, Void> {
        private final Trees trees;
        private final CompilationUnitTree unit;
        private final Map<Element, Set<Element>> calls = new HashMap<>();
        private Element method = null;
        private boolean inConstructor = false;

        Scan(Trees trees, CompilationUnitTree unit) {
            this.trees = trees;
            this.unit = unit;
        }

        private long line(Tree tree, boolean end) {
            long at = end ? trees.getSourcePositions().getEndPosition(unit, tree) : trees.getSourcePositions().getStartPosition(unit, tree);
            return unit.getLineMap().getLineNumber(at);
        }

        private void ruledOut(Tree tree) {
            t.due("line " + line(tree, false) + ": " + tree.getKind(), true, false);
        }

        @Override public Void visitMethod(MethodTree tree, Void none) {
            Element outer = method;
            method = trees.getElement(getCurrentPath());
            inConstructor = method.getKind() == ElementKind.CONSTRUCTOR;
            calls.putIfAbsent(method, new HashSet<>());
            t.due(tree.getName() + " is short", line(tree, true) - line(tree, false) < MOST_LINES, true);
            t.due(tree.getName() + " takes few", tree.getParameters().size() <= MOST_PARAMETERS, true);
            super.visitMethod(tree, none);
            method = outer;
            inConstructor = false;
            return null;
        }

        @Override public Void visitMethodInvocation(MethodInvocationTree tree, Void none) {
            Element called = trees.getElement(new TreePath(getCurrentPath(), tree.getMethodSelect()));
            String owner = called.getEnclosingElement().toString();
            if (owner.startsWith("LetterHeirs")) {
                if (method != null) calls.get(method).add(called);
            } else if (!called.getSimpleName().contentEquals("<init>")) {
                String name = owner + "." + called.getSimpleName();
                t.due("line " + line(tree, false) + " calls " + name, LIBRARY.contains(name), true);
            }
            return super.visitMethodInvocation(tree, none);
        }

        @Override public Void visitNewClass(NewClassTree tree, Void none) {
            t.due("line " + line(tree, false) + " makes an object in a call", method == null || inConstructor, true);
            t.due("line " + line(tree, false) + " has a body", tree.getClassBody() == null, true);
            return super.visitNewClass(tree, none);
        }

        @Override public Void visitNewArray(NewArrayTree tree, Void none) {
            t.due("line " + line(tree, false) + " makes an array in a call", method == null || inConstructor, true);
            return super.visitNewArray(tree, none);
        }

        @Override public Void visitThrow(ThrowTree tree, Void none) {
            ruledOut(tree);
            return null;
        }

        @Override public Void visitTry(TryTree tree, Void none) {
            ruledOut(tree);
            return null;
        }

        @Override public Void visitCatch(CatchTree tree, Void none) {
            ruledOut(tree);
            return null;
        }

        @Override public Void visitSynchronized(SynchronizedTree tree, Void none) {
            ruledOut(tree);
            return null;
        }

        @Override public Void visitAssert(AssertTree tree, Void none) {
            ruledOut(tree);
            return null;
        }

        @Override public Void visitLambdaExpression(LambdaExpressionTree tree, Void none) {
            ruledOut(tree);
            return null;
        }

        @Override public Void visitMemberReference(MemberReferenceTree tree, Void none) {
            ruledOut(tree);
            return null;
        }

        @Override public Void visitClass(ClassTree tree, Void none) {
            t.due("line " + line(tree, false) + " is a local class", method == null, true);
            return super.visitClass(tree, none);
        }

        @Override public Void visitVariable(VariableTree tree, Void none) {
            String type = String.valueOf(tree.getType());
            t.due("line " + line(tree, false) + " has type " + type, type.matches("(int|boolean|char|String|[A-Z]\\w+)(\\[\\])?"), true);
            return super.visitVariable(tree, none);
        }

        /** Calls that are no recursion go at most eight deep: from a public one on, each method once. */
        void depths() {
            for (Element from : calls.keySet()) {
                int deep = deepest(from, new HashSet<>());
                t.due(from.getEnclosingElement() + "." + from + " goes " + deep + " deep", deep <= MOST_DEEP, true);
            }
        }

        private int deepest(Element from, Set<Element> open) {
            if (!calls.containsKey(from) || !open.add(from)) return 0;
            int most = 0;
            for (Element to : calls.get(from)) {
                if (to instanceof ExecutableElement) most = Math.max(most, deepest(to, open));
            }
            open.remove(from);
            return most + 1;
        }
    }
}
