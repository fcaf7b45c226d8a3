import com.sun.source.tree.ClassTree;
import com.sun.source.tree.CompilationUnitTree;
import com.sun.source.tree.ImportTree;
import com.sun.source.tree.MethodInvocationTree;
import com.sun.source.tree.MethodTree;
import com.sun.source.tree.NewArrayTree;
import com.sun.source.tree.NewClassTree;
import com.sun.source.tree.Tree;
import com.sun.source.tree.VariableTree;
import com.sun.source.util.JavacTask;
import com.sun.source.util.SourcePositions;
import com.sun.source.util.TreePathScanner;
import com.sun.source.util.TreeScanner;
import com.sun.source.util.Trees;
import java.io.File;
import java.io.IOException;
import java.lang.reflect.Constructor;
import java.lang.reflect.Field;
import java.lang.reflect.Method;
import java.lang.reflect.Modifier;
import java.util.ArrayList;
import java.util.Arrays;
import java.util.HashSet;
import java.util.LinkedHashMap;
import java.util.List;
import java.util.Map;
import java.util.Set;
import java.util.TreeSet;
import javax.lang.model.element.Element;
import javax.tools.JavaCompiler;
import javax.tools.StandardJavaFileManager;
import javax.tools.ToolProvider;

/** What of ../shared/LANGUAGE.md a program can look at, and the class's face. */
public final class LanguageTests {
    private static final String SOURCE = "src/main/java/BorderQuestions.java";
    private static final String[] FACE = {
        "int guard(int, int, int)", "int of(int, int)", "int question(int, int)", "int sack(int, int)", "int know(int, int)",
        "int tire(int, int)", "int bring(int, int)", "int ask(int, int)", "int row(int, int, int)", "int feed(int)",
        "int border()", "int told(int)", "int pass(int)", "int on(int, int)", "int hear(int, int, boolean)", "int can(int, int)",
        "long odds(int, int, int)", "long mean(int)", "int plan(int, int)", "int ends(int)", "int book(int, int)", "int looked()",
        "int judge(int, int)", "int image()", "int undo()", "int act(int, int, int)", "int trace(int)", "int taken(int, int)",
        "int count(int)", "int tape(int, int, int)", "int item(int, int, long)", "long read(int, int)",
        "int shift(int, int, int, int, int)"
    };
    private static final Set<Tree.Kind> REFUSED = Set.of(
        Tree.Kind.THROW, Tree.Kind.TRY, Tree.Kind.CATCH, Tree.Kind.SYNCHRONIZED, Tree.Kind.ASSERT, Tree.Kind.LAMBDA_EXPRESSION,
        Tree.Kind.MEMBER_REFERENCE);
    private static final Set<String> IMPORTED = Set.of("java.util.Arrays", "java.util.ArrayList", "java.util.List", "java.util.Iterator");
    // Rule 4, as far as static functions go.
    private static final String LIBRARY = "(Math|Integer|Long)\\.\\w+(?<!Exact)|System\\.arraycopy|Arrays\\.(copyOf|copyOfRange|fill)|List\\.of";

    private LanguageTests() {
    }

    public static void main(String[] args) throws IOException {
        Due.about("language");
        face();
        source();
        calls();
        Due.end();
    }

    private static void face() {
        Class<?> one = BorderQuestions.class;
        Due.holds("public and final", Modifier.isPublic(one.getModifiers()) && Modifier.isFinal(one.getModifiers()));
        Set<String> due = new TreeSet<>(Arrays.asList(FACE));
        Set<String> got = new TreeSet<>();
        for (Method m : one.getDeclaredMethods()) {
            if (!m.isSynthetic() && !Modifier.isPrivate(m.getModifiers())) {
                String types = Arrays.toString(Arrays.stream(m.getParameterTypes()).map(Class::getName).toArray());
                got.add(m.getReturnType() + " " + m.getName() + "(" + types.substring(1, types.length() - 1) + ")");
            }
        }
        Due.holds("the methods " + got, got.equals(due));
        Set<String> fields = new TreeSet<>();
        for (Field f : one.getDeclaredFields()) {
            if (!Modifier.isPrivate(f.getModifiers())) {
                fields.add(f.getName());
            }
        }
        Due.holds("the constants " + fields, fields.equals(new TreeSet<>(List.of("NONE", "BAD", "STATE", "FULL", "NO"))));
        Constructor<?>[] made = one.getDeclaredConstructors();
        Due.holds("the constructor", made.length == 1 && Modifier.isPublic(made[0].getModifiers()) && made[0].getParameterCount() == 0);
        for (Class<?> inside : one.getDeclaredClasses()) {
            int m = inside.getModifiers();
            Due.holds(inside.getName(), Modifier.isStatic(m) && !Modifier.isPublic(m) && !Modifier.isProtected(m));
        }
    }

    private static void source() throws IOException {
        JavaCompiler compiler = ToolProvider.getSystemJavaCompiler();
        try (StandardJavaFileManager files = compiler.getStandardFileManager(null, null, null)) {
            JavacTask task = (JavacTask) compiler.getTask(null, files, null, List.of("-proc:none"), null,
                files.getJavaFileObjects(new File(SOURCE)));
            for (CompilationUnitTree unit : task.parse()) {
                Due.holds("no package line", unit.getPackageName() == null);
                for (ImportTree one : unit.getImports()) {
                    Due.holds("" + one, !one.isStatic() && IMPORTED.contains(one.getQualifiedIdentifier().toString()));
                }
                Looker looker = new Looker(unit, Trees.instance(task).getSourcePositions());
                looker.scan(unit, null);
                Due.holds("classes: " + looker.classes, looker.classes <= 12);
                Due.is("private methods with a public one's name", looker.twice(), 0);
            }
        }
    }

    /** Rules 8 and 11: which methods call themselves or one another, and how deep all other calls go. */
    private static void calls() throws IOException {
        JavaCompiler compiler = ToolProvider.getSystemJavaCompiler();
        try (StandardJavaFileManager files = compiler.getStandardFileManager(null, null, null)) {
            JavacTask task = (JavacTask) compiler.getTask(null, files, null, List.of("-proc:none"), null,
                files.getJavaFileObjects(new File(SOURCE)));
            Iterable<? extends CompilationUnitTree> units = task.parse();
            task.analyze();
            Caller caller = new Caller(Trees.instance(task));
            for (CompilationUnitTree unit : units) {
                caller.scan(unit, null);
            }
            Due.holds("calls were found", caller.calls.size() > 100);
            for (Element method : caller.calls.keySet()) {
                boolean own = method.getModifiers().contains(javax.lang.model.element.Modifier.PRIVATE);
                Due.holds(method + " calls itself, and is private", own || !caller.reaches(method, method));
                int deep = caller.deep(method);
                Due.holds(method + " goes " + deep + " deep", deep <= 8);
            }
        }
    }

    /** Which method of the file calls which. */
    private static final class Caller extends TreePathScanner<Void, Void> {
        private final Trees trees;
        private final Map<Element, Set<Element>> calls = new LinkedHashMap<>();
        private Element within;

        private Caller(Trees trees) {
            this.trees = trees;
        }

        @Override
        public Void visitMethod(MethodTree tree, Void none) {
            within = trees.getElement(getCurrentPath());
            calls.computeIfAbsent(within, e -> new HashSet<>());
            return super.visitMethod(tree, none);
        }

        private void called() {
            Element one = trees.getElement(getCurrentPath());
            if (one != null && within != null && one.toString().length() > 0 && trees.getTree(one) != null) {
                calls.get(within).add(one);
            }
        }

        @Override
        public Void visitMethodInvocation(MethodInvocationTree tree, Void none) {
            called();
            return super.visitMethodInvocation(tree, none);
        }

        @Override
        public Void visitNewClass(NewClassTree tree, Void none) {
            called();
            return super.visitNewClass(tree, none);
        }

        private boolean reaches(Element from, Element to) {
            Set<Element> seen = new HashSet<>();
            List<Element> open = new ArrayList<>(calls.getOrDefault(from, Set.of()));
            while (!open.isEmpty()) {
                Element one = open.remove(open.size() - 1);
                if (one.equals(to)) {
                    return true;
                }
                if (seen.add(one)) {
                    open.addAll(calls.getOrDefault(one, Set.of()));
                }
            }
            return false;
        }

        /** How many calls stand open at most from this one on; a method that calls itself counts once. */
        private int deep(Element method) {
            return deep(method, new HashSet<>());
        }

        private int deep(Element method, Set<Element> open) {
            open.add(method);
            int deepest = 0;
            for (Element one : calls.getOrDefault(method, Set.of())) {
                if (!open.contains(one)) {
                    deepest = Math.max(deepest, deep(one, open));
                }
            }
            open.remove(method);
            return deepest + 1;
        }
    }

    private static final class Looker extends TreeScanner<Void, Void> {
        private final CompilationUnitTree unit;
        private final SourcePositions places;
        private final Set<String> open = new HashSet<>();
        private final Set<String> hidden = new HashSet<>();
        private String within = "";
        private int classes;

        private Looker(CompilationUnitTree unit, SourcePositions places) {
            this.unit = unit;
            this.places = places;
        }

        private long line(long place) {
            return unit.getLineMap().getLineNumber(place);
        }

        private int twice() {
            hidden.remove("<init>");
            hidden.retainAll(open);
            return hidden.size();
        }

        @Override
        public Void scan(Tree tree, Void none) {
            if (tree != null && REFUSED.contains(tree.getKind())) {
                Due.holds("line " + line(places.getStartPosition(unit, tree)) + " without " + tree.getKind(), false);
            }
            return super.scan(tree, none);
        }

        @Override
        public Void visitClass(ClassTree tree, Void none) {
            classes++;
            int fields = 0;
            for (Tree member : tree.getMembers()) {
                if (member instanceof VariableTree) {
                    boolean isStatic = ((VariableTree) member).getModifiers().getFlags().toString().contains("static");
                    boolean isFinal = ((VariableTree) member).getModifiers().getFlags().toString().contains("final");
                    Due.holds("static and not final: " + member, !isStatic || isFinal);
                    fields += isStatic ? 0 : 1;
                }
                Due.holds("no initialiser block", member.getKind() != Tree.Kind.BLOCK);
            }
            Due.holds(fields + " fields of " + tree.getSimpleName(), fields <= 20);
            return super.visitClass(tree, none);
        }

        @Override
        public Void visitMethod(MethodTree tree, Void none) {
            String name = tree.getName().toString();
            (tree.getModifiers().getFlags().toString().contains("public") ? open : hidden).add(name);
            long lines = line(places.getEndPosition(unit, tree)) - line(places.getStartPosition(unit, tree)) + 1;
            Due.holds(name + " is short: " + lines, lines <= 60);
            Due.holds(name + " takes few", tree.getParameters().size() <= 7);
            within = name;
            super.visitMethod(tree, none);
            within = "";
            return null;
        }

        /** Rule 12 as it is kept here: what is made is made with the object itself, and by no call. */
        private void made(Tree tree) {
            Due.holds(within + " makes nothing: " + tree, within.isEmpty() || within.equals("<init>"));
        }

        @Override
        public Void visitNewArray(NewArrayTree tree, Void none) {
            made(tree);
            return super.visitNewArray(tree, none);
        }

        @Override
        public Void visitNewClass(NewClassTree tree, Void none) {
            Due.holds("no anonymous class", tree.getClassBody() == null);
            made(tree);
            return super.visitNewClass(tree, none);
        }

        @Override
        public Void visitMethodInvocation(MethodInvocationTree tree, Void none) {
            String called = tree.getMethodSelect().toString();
            boolean library = called.matches("(Math|Integer|Long|Short|Byte|Character|Boolean|String|System|Arrays|List|Runtime|Thread)\\..*|java\\..*");
            Due.holds(called, !library || called.matches(LIBRARY));
            return super.visitMethodInvocation(tree, none);
        }
    }
}
