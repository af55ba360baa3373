import java.lang.reflect.Method;
import java.lang.reflect.Modifier;
import java.net.URL;
import java.net.URLClassLoader;
import java.nio.file.Files;
import java.nio.file.Path;
import java.util.ArrayList;
import java.util.Comparator;
import java.util.List;
import java.util.TreeSet;
import java.util.regex.Matcher;
import java.util.regex.Pattern;
import java.util.stream.Stream;
import javax.tools.JavaCompiler;
import javax.tools.ToolProvider;

// What README.md shows of the class's use is compiled as it stands there, and each call must answer what
// stands behind it. A call shown without an answer, and a call of the face that is never shown, are faults.
public final class ReadmeTest {
    private static final Path README = Path.of("README.md");
    private static final Path ROWS = Path.of("src/test/boundaries.txt");
    private static final String MAKER = "HeapBench bench = new HeapBench();";
    private static final Pattern SHOWN =
            Pattern.compile("((?:int|long|boolean) (\\w+) = )?(bench\\.(\\w+)\\([^()]*\\));\\s+// (-?\\d+|true|false|NONE)(:.*)?");

    private static int wrong = 0;
    private static int asked = 0;
    private static final TreeSet<String> SEEN = new TreeSet<>();

    public static void main(String[] args) throws Exception {
        List<String> lines = Files.readAllLines(README);
        runJava(programOf(lines));
        rowsStand(lines);
        for (Method m : HeapBench.class.getDeclaredMethods()) {
            if (Modifier.isPublic(m.getModifiers()) && !SEEN.contains(m.getName())) {
                notDue(m.getName() + "() is not shown");
            }
        }
        System.out.println(asked + " calls shown by README.md, " + wrong + " not as due");
        if (wrong != 0 || asked == 0) {
            System.exit(1);
        }
    }

    private static void notDue(String what) {
        wrong++;
        System.out.println("README.md: " + what);
    }

    /** Called by the program that README.md's lines make. */
    public static void due(int line, String call, Object got, String want) {
        asked++;
        String wanted = want.equals("NONE") ? String.valueOf(HeapBench.NONE) : want;
        if (!String.valueOf(got).equals(wanted)) {
            notDue("line " + line + ": " + call + " answered " + got + ", shown is " + want);
        }
    }

    /** One method for each block, so that each has an object of its own. */
    private static String programOf(List<String> lines) {
        StringBuilder program = new StringBuilder("public final class Shown {\n  public static void main(String[] args) {\n");
        boolean inside = false;
        for (int i = 0; i < lines.size(); i++) {
            String line = lines.get(i).trim();
            if (line.equals("```java")) {
                inside = true;
                program.append("    {\n");
            } else if (line.equals("```") && inside) {
                inside = false;
                program.append("    }\n");
            } else if (inside && !line.isEmpty()) {
                program.append(statementOf(line, i + 1));
            }
        }
        return program.append("  }\n}\n").toString();
    }

    private static String statementOf(String line, int number) {
        if (line.equals(MAKER)) {
            return "      " + line + "\n";
        }
        Matcher m = SHOWN.matcher(line);
        if (!m.matches()) {
            notDue("line " + number + " is no call with its answer: " + line);
            return "";
        }
        SEEN.add(m.group(4));
        String kept = m.group(1) == null ? "" : "      " + m.group(1) + m.group(3) + ";\n";
        String got = m.group(1) == null ? m.group(3) : m.group(2);
        return kept + "      ReadmeTest.due(" + number + ", \"" + m.group(3) + "\", " + got + ", \"" + m.group(5) + "\");\n";
    }

    private static void runJava(String program) throws Exception {
        Path room = Files.createTempDirectory("readme");
        try {
            Path source = room.resolve("Shown.java");
            Files.writeString(source, program);
            JavaCompiler javac = ToolProvider.getSystemJavaCompiler();
            int code = javac.run(null, null, null, "-d", room.toString(), "-cp", System.getProperty("java.class.path"), source.toString());
            if (code != 0) {
                notDue("what it shows does not compile");
                return;
            }
            try (URLClassLoader loader = new URLClassLoader(new URL[] {room.toUri().toURL()})) {
                loader.loadClass("Shown").getMethod("main", String[].class).invoke(null, (Object) new String[0]);
            }
        } finally {
            clear(room);
        }
    }

    private static void clear(Path room) throws Exception {
        try (Stream<Path> all = Files.walk(room)) {
            for (Path path : (Iterable<Path>) all.sorted(Comparator.reverseOrder())::iterator) {
                Files.delete(path);
            }
        }
    }

    /** The rows that README.md shows stand in boundaries.txt just so, where BoundaryTest runs them. */
    private static void rowsStand(List<String> lines) throws Exception {
        List<String> shown = new ArrayList<>();
        boolean inside = false;
        for (String line : lines) {
            inside = line.startsWith("## Promise ") || inside && !line.equals("```");
            if (inside) {
                shown.add(line);
            }
        }
        String rows = Files.readString(ROWS);
        if (shown.size() < 2 || !rows.contains(String.join("\n", shown) + "\n")) {
            notDue("the rows it shows are not in " + ROWS);
        }
    }
}
