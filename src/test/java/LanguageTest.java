import com.sun.source.tree.ClassTree;
import com.sun.source.tree.CompilationUnitTree;
import com.sun.source.tree.MethodInvocationTree;
import com.sun.source.tree.MethodTree;
import com.sun.source.tree.NewClassTree;
import com.sun.source.tree.VariableTree;
import com.sun.source.util.JavacTask;
import com.sun.source.util.TreePath;
import com.sun.source.util.TreePathScanner;
import com.sun.source.util.Trees;
import java.lang.management.ManagementFactory;
import java.lang.reflect.Constructor;
import java.lang.reflect.Field;
import java.lang.reflect.Method;
import java.lang.reflect.Modifier;
import java.nio.file.Files;
import java.nio.file.Path;
import java.util.ArrayList;
import java.util.Arrays;
import java.util.HashMap;
import java.util.HashSet;
import java.util.List;
import java.util.Map;
import java.util.Set;
import java.util.TreeSet;
import java.util.regex.Matcher;
import java.util.regex.Pattern;
import javax.lang.model.element.Element;
import javax.tools.JavaCompiler;
import javax.tools.StandardJavaFileManager;
import javax.tools.ToolProvider;

// The rules of LANGUAGE.md that can be seen in the source or by reflection, and the room that calls take.
public final class LanguageTest {
    private static final String[] FACE = {
        "boolean things(int)", "int way(int,int,int)", "int sheet(int,int)", "boolean entry(int,long)",
        "boolean lay(int)", "int measure(int)", "boolean quarrel(int,int,int,boolean)", "int put(int,int)",
        "int count(int)", "int heap(int)", "int pair(int,int,int)", "long cost(int)", "int middle(int)",
        "long best(int,int)", "long line(int,int)", "int better(int)", "int two()", "int centres(int)",
        "long third(int)", "long thirds()", "int rounds()", "int tree(int)", "int joined(int,int)",
        "int height(int,int)", "int cut(int)", "long many(int,int)", "long rank()", "boolean of(long)",
        "boolean keep(int)", "int differ(int)", "int both(int)", "int tell(int)", "int check(int,long)",
        "int load()", "int undo()", "int fault()"};

    private static int wrong = 0;

    private static void rule(int number, boolean kept, String what) {
        if (!kept) {
            wrong++;
            System.out.println("rule " + number + ": " + what);
        }
    }

    public static void main(String[] args) throws Exception {
        String source = Files.readString(Path.of("src/main/java/HeapBench.java"));
        face();
        insideClasses();
        words(withoutTexts(source));
        methodLengths(source);
        new CallsOfTheClass().go();
        room();
        System.out.println(wrong == 0 ? "all rules are kept" : wrong + " rules are not kept");
        if (wrong != 0) {
            System.exit(1);
        }
    }

    private static String told(Method m) {
        StringBuilder text = new StringBuilder(m.getReturnType().getName()).append(' ').append(m.getName()).append('(');
        for (int i = 0; i < m.getParameterCount(); i++) {
            text.append(i > 0 ? "," : "").append(m.getParameterTypes()[i].getName());
        }
        return text.append(')').toString();
    }

    private static void face() {
        Set<String> open = new TreeSet<>();
        Set<String> names = new TreeSet<>();
        for (Method m : HeapBench.class.getDeclaredMethods()) {
            if (!Modifier.isPrivate(m.getModifiers())) {
                rule(1, Modifier.isPublic(m.getModifiers()) && !Modifier.isStatic(m.getModifiers()), told(m));
                open.add(told(m));
                names.add(m.getName());
            }
        }
        rule(1, open.equals(new TreeSet<>(Arrays.asList(FACE))), "the face is " + open);
        int modifiers = HeapBench.class.getModifiers();
        rule(1, Modifier.isPublic(modifiers) && Modifier.isFinal(modifiers), "public and final");
        Constructor<?>[] makers = HeapBench.class.getDeclaredConstructors();
        rule(1, makers.length == 1 && Modifier.isPublic(makers[0].getModifiers()) && makers[0].getParameterCount() == 0, "constructors");
        for (Field f : HeapBench.class.getDeclaredFields()) {
            rule(1, Modifier.isPrivate(f.getModifiers()) || f.getName().equals("NONE"), "field " + f.getName());
        }
        for (Class<?> c : all()) {
            for (Method m : c.getDeclaredMethods()) {
                boolean own = c == HeapBench.class && Modifier.isPublic(m.getModifiers());
                rule(1, own || !names.contains(m.getName()), c.getSimpleName() + "." + m.getName() + " bears a public name");
                rule(11, m.getParameterCount() <= 7, "parameters of " + m.getName());
            }
        }
    }

    private static List<Class<?>> all() {
        List<Class<?>> all = new ArrayList<>(List.of(HeapBench.class));
        all.addAll(Arrays.asList(HeapBench.class.getDeclaredClasses()));
        return all;
    }

    private static void insideClasses() {
        rule(11, all().size() <= 12, "twelve classes");
        for (Class<?> c : all()) {
            if (c != HeapBench.class) {
                rule(2, Modifier.isStatic(c.getModifiers()) && !Modifier.isPublic(c.getModifiers()), c + " is static, not public");
                rule(2, c.getDeclaredClasses().length == 0, c + " has no class inside");
            }
            int fields = 0;
            for (Field f : c.getDeclaredFields()) {
                boolean isStatic = Modifier.isStatic(f.getModifiers());
                fields += isStatic ? 0 : 1;
                rule(5, !isStatic || Modifier.isFinal(f.getModifiers()), f + " is final");
            }
            rule(11, fields <= 20, c + " has " + fields + " fields");
        }
    }

    /** The source without its comments and texts. */
    private static String withoutTexts(String source) {
        return source.replaceAll("(?s)/\\*.*?\\*/", " ").replaceAll("//[^\n]*", " ").replaceAll("\"[^\"\n]*\"", "\"\"");
    }

    private static void words(String code) {
        for (String word : new String[] {"throw", "throws", "try", "catch", "finally", "synchronized", "assert",
            "protected", "hashCode", "toString", "Object", "System.currentTimeMillis", "System.nanoTime", "Random",
            "Thread", "volatile", "native", "equals", "goto", "var", "package"}) {
            rule(6, !Pattern.compile("(?<![\\w.])" + Pattern.quote(word) + "\\b").matcher(code).find(), "has the word " + word);
        }
        rule(2, !code.contains("->") && !code.contains("::"), "lambda or method reference");
        rule(4, !code.contains("Exact("), "a function whose name ends in Exact");
        rule(5, !Pattern.compile("static\\s*\\{").matcher(code).find(), "static initialiser block");
        rule(9, !Pattern.compile("while\\s*\\(\\s*true|for\\s*\\(\\s*;").matcher(code).find(), "a loop without an end");
        Matcher imports = Pattern.compile("import\\s+([^;]+);").matcher(code);
        while (imports.find()) {
            rule(4, imports.group(1).equals("java.util.Arrays"), "import of " + imports.group(1));
        }
        Matcher library = Pattern.compile("\\b(Arrays|System|Math|Integer|Long)\\.(\\w+)").matcher(code);
        Set<String> fine = Set.of("Arrays.fill", "System.arraycopy", "Math.max", "Math.min", "Math.abs",
                "Integer.bitCount", "Integer.MAX_VALUE", "Long.MAX_VALUE");
        while (library.find()) {
            rule(4, fine.contains(library.group()), "library: " + library.group());
        }
    }

    private static void methodLengths(String source) {
        String[] lines = source.split("\n");
        Pattern head = Pattern.compile("^( {4}| {8})(?! ).*\\) \\{$");
        for (int i = 0; i < lines.length; i++) {
            Matcher m = head.matcher(lines[i]);
            if (m.find()) {
                int end = i;
                while (!lines[end].equals(m.group(1) + "}")) {
                    end++;
                }
                rule(11, end - i < 60, "a method of " + (end - i + 1) + " lines: " + lines[i].trim());
            }
        }
    }

    /** Which method of the class calls which, as the compiler sees it. */
    private static final class CallsOfTheClass extends TreePathScanner<Void, Trees> {
        private static final int MOST_DEEP = 8;
        final Map<String, Set<String>> callees = new HashMap<>();
        final Set<String> recursive = new TreeSet<>();
        final Map<String, Integer> depths = new HashMap<>();

        void go() throws Exception {
            JavaCompiler javac = ToolProvider.getSystemJavaCompiler();
            try (StandardJavaFileManager files = javac.getStandardFileManager(null, null, null)) {
                JavacTask task = (JavacTask) javac.getTask(null, files, null, List.of("-proc:none"), null,
                        files.getJavaFileObjects("src/main/java/HeapBench.java"));
                CompilationUnitTree unit = task.parse().iterator().next();
                task.analyze();
                scan(unit, Trees.instance(task));
            }
            for (String method : callees.keySet()) {
                int deep = depthOf(method, new HashSet<>());
                rule(11, deep <= MOST_DEEP, method + " goes " + deep + " calls deep");
            }
            rule(8, recursive.equals(Set.of("HeapBench.Search.descend")), "recursion of " + recursive);
            rule(11, callees.size() > 100 && depthOf("HeapBench.better", new HashSet<>()) > 4, "no calls seen");
        }

        @Override
        public Void visitMethodInvocation(MethodInvocationTree call, Trees trees) {
            note(trees);
            return super.visitMethodInvocation(call, trees);
        }

        @Override
        public Void visitNewClass(NewClassTree made, Trees trees) {
            note(trees);
            return super.visitNewClass(made, trees);
        }

        private void note(Trees trees) {
            Element callee = trees.getElement(getCurrentPath());
            String name = callee.getEnclosingElement() + "." + callee.getSimpleName();
            if (name.startsWith("HeapBench")) {
                callees.computeIfAbsent(name, n -> new TreeSet<>());
                callees.computeIfAbsent(caller(trees), n -> new TreeSet<>()).add(name);
            }
        }

        /** A field's first value is made within the constructor. */
        private String caller(Trees trees) {
            TreePath at = getCurrentPath();
            while (!(at.getLeaf() instanceof MethodTree) && !(at.getParentPath().getLeaf() instanceof ClassTree)) {
                at = at.getParentPath();
            }
            Element within = trees.getElement(at);
            String name = at.getLeaf() instanceof VariableTree ? "<init>" : within.getSimpleName().toString();
            return within.getEnclosingElement() + "." + name;
        }

        private int depthOf(String method, Set<String> open) {
            if (!open.add(method)) {
                recursive.add(method);
                return 0;
            }
            if (!depths.containsKey(method)) {
                int deepest = 0;
                for (String callee : callees.getOrDefault(method, Set.of())) {
                    deepest = Math.max(deepest, depthOf(callee, open));
                }
                depths.put(method, deepest + 1);
            }
            open.remove(method);
            return depths.get(method);
        }
    }

    /** All calls of a run live in one room: once an object has been made, its calls make next to nothing. */
    private static void room() {
        com.sun.management.ThreadMXBean bean = (com.sun.management.ThreadMXBean) ManagementFactory.getThreadMXBean();
        long id = Thread.currentThread().getId();
        dearCalls(new HeapBench(), 1);
        long before = bean.getThreadAllocatedBytes(id);
        HeapBench x = new HeapBench();
        long made = bean.getThreadAllocatedBytes(id);
        dearCalls(x, 16);
        long after = bean.getThreadAllocatedBytes(id);
        rule(12, made - before < 40000, "a new object takes " + (made - before) + " bytes");
        rule(12, after - made < 80000, "512 dear calls take " + (after - made) + " bytes");
    }

    private static void dearCalls(HeapBench x, int times) {
        for (int i = 0; i < times; i++) {
            x.things(9);
            for (int goal = 0; goal < 4; goal++) {
                x.best(goal, 0);
                x.line(goal, 4);
                x.better(goal);
                x.cost(goal);
            }
            x.things(12);
            x.sheet(3, 8);
            x.entry(0, 5);
            x.lay(0);
            x.measure(2);
            x.two();
            x.centres(6);
            x.third(i);
            x.tree(1);
            x.cut(0);
            x.of(12345);
            x.keep(0);
            x.both(0);
            x.undo();
        }
    }
}
