import com.sun.source.tree.AnnotationTree;
import com.sun.source.tree.ClassTree;
import com.sun.source.tree.CompilationUnitTree;
import com.sun.source.tree.ImportTree;
import com.sun.source.tree.MethodInvocationTree;
import com.sun.source.tree.MethodTree;
import com.sun.source.tree.NewClassTree;
import com.sun.source.tree.Tree;
import com.sun.source.tree.VariableTree;
import com.sun.source.util.JavacTask;
import com.sun.source.util.TreePathScanner;
import com.sun.source.util.Trees;
import java.lang.management.ManagementFactory;
import java.lang.reflect.Method;
import java.lang.reflect.Modifier;
import java.nio.file.Path;
import java.util.EnumSet;
import java.util.HashMap;
import java.util.HashSet;
import java.util.LinkedHashSet;
import java.util.List;
import java.util.Map;
import java.util.Set;
import java.util.TreeSet;
import javax.lang.model.element.Element;
import javax.lang.model.element.ElementKind;
import javax.lang.model.element.ExecutableElement;
import javax.lang.model.element.TypeElement;
import javax.tools.JavaCompiler;
import javax.tools.StandardJavaFileManager;
import javax.tools.ToolProvider;

/** The rules of LANGUAGE.md that the compiler's tree can show, and the room that the dearest runs take. */
public final class LanguageTest {
    private static final String SOURCE = "src/main/java/BuildCache.java";
    private static final String[] FACE = {
        "action()int", "about(int,int)int", "build(int,int)int", "byteAt(int,int,int)int", "capacity(int)int",
        "changed(int,int)int", "clear()int", "copy(int)int", "count(int)int", "done(int,int)int", "entry(int,int)long",
        "erase(int)int", "feed(long,int)int", "forget()int", "input(int,int)int", "isClean(int)int", "key(int,int)long",
        "length(int,int)int", "of(int,int)int", "output(int,int)int", "path(int,int,boolean)int", "remove(int,int)int",
        "step(int,int,int)int", "uses(int,int)int", "write(int,int)int"};
    private static final Set<String> LIBRARY = Set.of(
        "java.util.ArrayList.add", "java.util.ArrayList.get", "java.util.ArrayList.remove", "java.util.ArrayList.size",
        "java.util.ArrayList.isEmpty", "java.util.ArrayList.clear", "java.util.ArrayList.<init>", "java.lang.Long.bitCount",
        "java.lang.Math.min", "java.lang.Math.max", "java.lang.Object.<init>");
    private static final Set<Tree.Kind> RULED_OUT = EnumSet.of(
        Tree.Kind.THROW, Tree.Kind.TRY, Tree.Kind.CATCH, Tree.Kind.SYNCHRONIZED, Tree.Kind.ASSERT, Tree.Kind.LAMBDA_EXPRESSION,
        Tree.Kind.MEMBER_REFERENCE, Tree.Kind.ANNOTATION, Tree.Kind.STRING_LITERAL, Tree.Kind.INSTANCE_OF);
    private static final int ROOM_IN_BYTES = 7_300_000;

    public static void main(String[] args) throws Exception {
        face();
        source();
        room();
        Due.end("LanguageTest");
    }

    private static void face() {
        Set<String> methods = new TreeSet<>();
        for (Method method : BuildCache.class.getDeclaredMethods()) {
            if (Modifier.isPrivate(method.getModifiers())) continue;
            StringBuilder types = new StringBuilder();
            for (Class<?> type : method.getParameterTypes()) types.append(types.length() == 0 ? "" : ",").append(type.getName());
            methods.add(method.getName() + "(" + types + ")" + method.getReturnType().getName());
        }
        holds("the face's methods are " + methods, methods.equals(new TreeSet<>(Set.of(FACE))));
        holds("one constructor", BuildCache.class.getConstructors().length == 1);
        holds("final", Modifier.isFinal(BuildCache.class.getModifiers()));
        holds("six constants", BuildCache.class.getFields().length == 6);
        for (var field : BuildCache.class.getDeclaredFields()) {
            holds(field.getName(), Modifier.isPrivate(field.getModifiers()) || BuildCache.class.getFields().length == 6
                && Modifier.isPublic(field.getModifiers()));
        }
        for (Class<?> inside : BuildCache.class.getDeclaredClasses()) {
            holds(inside.getName() + " is static and hidden", Modifier.isStatic(inside.getModifiers())
                && !Modifier.isPublic(inside.getModifiers()) && !Modifier.isProtected(inside.getModifiers()));
        }
    }

    private static void holds(String rule, boolean isSo) {
        Due.is(rule, isSo ? 1 : 0, 1);
    }

    private static void source() throws Exception {
        JavaCompiler compiler = ToolProvider.getSystemJavaCompiler();
        StandardJavaFileManager manager = compiler.getStandardFileManager(null, null, null);
        JavacTask task = (JavacTask) compiler.getTask(null, manager, null, List.of("-proc:none"), null,
            manager.getJavaFileObjects(Path.of(SOURCE)));
        CompilationUnitTree unit = task.parse().iterator().next();
        task.analyze();
        Scan scan = new Scan(Trees.instance(task), unit);
        scan.scan(unit, null);
        holds("one class outside, no package", unit.getTypeDecls().size() == 1 && unit.getPackageName() == null);
        for (ImportTree line : unit.getImports()) {
            holds("import " + line.getQualifiedIdentifier(), line.getQualifiedIdentifier().toString().equals("java.util.ArrayList"));
        }
        holds(scan.classes + " classes", scan.classes <= 12);
        for (String method : scan.calls.keySet()) {
            int depth = depth(scan.calls, method, new LinkedHashSet<>());
            holds(method + " goes " + depth + " deep", depth <= 8);
        }
    }

    /** How many of the program's own methods stand open at once, at most; far too many, where one comes to itself. */
    private static int depth(Map<String, Set<String>> calls, String method, LinkedHashSet<String> open) {
        if (!open.add(method)) return 1000;
        int most = 0;
        for (String called : calls.getOrDefault(method, Set.of())) most = Math.max(most, depth(calls, called, open));
        open.remove(method);
        return most + 1;
    }

    private static final class Scan extends TreePathScanner<Void, Void> {
        private final Trees trees;
        private final CompilationUnitTree unit;
        private final Map<String, Set<String>> calls = new HashMap<>();
        private String inside = "";
        private int classes = 0;

        Scan(Trees trees, CompilationUnitTree unit) {
            this.trees = trees;
            this.unit = unit;
        }

        @Override
        public Void scan(Tree tree, Void nothing) {
            if (tree != null) holds("no " + tree.getKind() + " as in " + tree, !RULED_OUT.contains(tree.getKind()));
            return super.scan(tree, nothing);
        }

        @Override
        public Void visitAnnotation(AnnotationTree tree, Void nothing) {
            holds("no annotation", false);
            return null;
        }

        @Override
        public Void visitClass(ClassTree tree, Void nothing) {
            classes++;
            int fields = 0;
            for (Tree member : tree.getMembers()) {
                if (member.getKind() == Tree.Kind.BLOCK) holds("no initialiser block", false);
                if (!(member instanceof VariableTree field)) continue;
                boolean isStatic = field.getModifiers().toString().contains("static");
                if (!isStatic) fields++;
                holds("static is final: " + field.getName(), !isStatic || field.getModifiers().toString().contains("final"));
            }
            holds(tree.getSimpleName() + " has " + fields + " fields", fields <= 20);
            Element it = trees.getElement(getCurrentPath());
            holds(tree.getSimpleName() + " is no class within a method", it.getEnclosingElement().getKind() != ElementKind.METHOD);
            return super.visitClass(tree, nothing);
        }

        @Override
        public Void visitMethod(MethodTree tree, Void nothing) {
            ExecutableElement it = (ExecutableElement) trees.getElement(getCurrentPath());
            String outer = inside;
            inside = nameOf(it);
            var places = trees.getSourcePositions();
            long first = unit.getLineMap().getLineNumber(Math.max(0, places.getStartPosition(unit, tree)));
            long last = unit.getLineMap().getLineNumber(Math.max(0, places.getEndPosition(unit, tree)));
            holds(inside + " has " + (last - first + 1) + " lines", last - first < 60);
            holds(inside + " has few parameters", tree.getParameters().size() <= 7);
            boolean isOfTheFace = false;
            for (String method : FACE) isOfTheFace |= method.startsWith(it.getSimpleName() + "(");
            holds(inside + " bears no name of the face", !isOfTheFace || inside.startsWith("BuildCache."));
            calls.computeIfAbsent(inside, key -> new HashSet<>());
            super.visitMethod(tree, nothing);
            inside = outer;
            return null;
        }

        @Override
        public Void visitMethodInvocation(MethodInvocationTree tree, Void nothing) {
            note(trees.getElement(getCurrentPath()));
            return super.visitMethodInvocation(tree, nothing);
        }

        @Override
        public Void visitNewClass(NewClassTree tree, Void nothing) {
            holds("no anonymous class", tree.getClassBody() == null);
            note(trees.getElement(getCurrentPath()));
            return super.visitNewClass(tree, nothing);
        }

        private void note(Element called) {
            if (!(called instanceof ExecutableElement it)) return;
            String name = nameOf(it);
            if (name.startsWith("BuildCache")) calls.computeIfAbsent(inside, key -> new HashSet<>()).add(name);
            else holds(name + " is of the library that may be used", LIBRARY.contains(name));
        }

        private static String nameOf(ExecutableElement it) {
            return ((TypeElement) it.getEnclosingElement()).getQualifiedName() + "." + it.getSimpleName();
        }
    }

    // Each element takes a byte and each object sixteen, at least: so few bytes hold neither too many of the one nor of the other.
    private static void room() {
        roomOf("new objects", LanguageTest::newObjects);
        roomOf("paths and actions, cleared", LanguageTest::cleared);
        roomOf("builds that always run", LanguageTest::builds);
        roomOf("builds that evict all", LanguageTest::evicting);
        roomOf("builds that are forgotten", LanguageTest::forgetting);
    }

    private static void roomOf(String run, Runnable calls) {
        var threads = (com.sun.management.ThreadMXBean) ManagementFactory.getThreadMXBean();
        calls.run();
        long before = threads.getThreadAllocatedBytes(Thread.currentThread().getId());
        calls.run();
        long bytes = threads.getThreadAllocatedBytes(Thread.currentThread().getId()) - before;
        holds(run + " make " + bytes + " bytes", bytes <= ROOM_IN_BYTES);
    }

    private static void newObjects() {
        for (int i = 0; i < 512; i++) new BuildCache().clear();
    }

    private static void cleared() {
        BuildCache x = new BuildCache();
        for (int i = 0; i < 512; i++) {
            int turn = i % 67;
            if (turn == 66) x.clear();
            else if (turn < 26) x.path(0, 1 + turn, false);
            else x.action();
        }
    }

    private static BuildCache withForty() {
        BuildCache x = new BuildCache();
        x.path(0, 1, false);
        for (int a = 0; a < 40; a++) {
            x.action();
            x.input(a, 1);
            x.step(a, 1, a);
        }
        return x;
    }

    private static void builds() {
        BuildCache x = withForty();
        x.capacity(4000);
        for (int i = 0; i < 130; i++) {
            x.feed(i, 2);
            x.write(i & 1, 1);
            Due.is("runs", x.build(i & 1, BuildCache.NONE), 40);
        }
    }

    private static void forgetting() {
        BuildCache x = withForty();
        for (int i = 0; i < 195; i++) {
            Due.is("runs", x.build(0, BuildCache.NONE), 40);
            x.forget();
        }
    }

    private static void evicting() {
        BuildCache x = withForty();
        x.capacity(0);
        for (int i = 0; i < 390; i++) Due.is("runs", x.build(0, BuildCache.NONE), 40);
    }
}
