import java.io.IOException;
import java.lang.reflect.InvocationTargetException;
import java.lang.reflect.Method;
import java.lang.reflect.Modifier;
import java.net.URL;
import java.net.URLClassLoader;
import java.nio.file.Files;
import java.nio.file.Path;
import java.util.ArrayList;
import java.util.Comparator;
import java.util.List;
import java.util.Set;
import java.util.TreeSet;
import java.util.regex.Matcher;
import java.util.regex.Pattern;
import java.util.stream.Stream;
import javax.tools.JavaCompiler;
import javax.tools.ToolProvider;

/** The calls that README.md shows: they compile as they stand there, and answer what stands behind them. */
public final class ReadmeTests {
    private static final Pattern CALL = Pattern.compile("(x\\.(\\w+)\\(.*\\));\\s*// (-?\\d+|[A-Z]+)(:.*)?");
    private static final Pattern NAMED = Pattern.compile("\\bx\\.(\\w+)\\(");

    private final List<List<String>> blocks = new ArrayList<>();
    private final List<String> calls = new ArrayList<>();
    private final StringBuilder source = new StringBuilder();

    private ReadmeTests() {
    }

    public static void main(String[] args) throws IOException, ReflectiveOperationException {
        Due.about("README.md");
        ReadmeTests tests = new ReadmeTests();
        tests.findBlocks(Files.readAllLines(Path.of("README.md")));
        tests.eachMethodIsShown();
        tests.write();
        tests.tryAll();
        Due.end();
    }

    private void findBlocks(List<String> lines) {
        boolean within = false;
        for (String line : lines) {
            if (line.equals("```java")) {
                within = true;
                blocks.add(new ArrayList<>());
            } else if (line.equals("```")) {
                within = false;
            } else if (within) {
                blocks.get(blocks.size() - 1).add(line);
            }
        }
        Due.holds("calls are shown", !blocks.isEmpty());
        Due.holds("the last of them come to an end", !within);
    }

    private void eachMethodIsShown() {
        Set<String> shown = new TreeSet<>();
        for (List<String> block : blocks) {
            for (String line : block) {
                Matcher named = NAMED.matcher(line);
                while (named.find()) {
                    shown.add(named.group(1));
                }
            }
        }
        for (Method one : BorderQuestions.class.getDeclaredMethods()) {
            if (Modifier.isPublic(one.getModifiers())) {
                Due.holds(one.getName() + " is shown", shown.contains(one.getName()));
            }
        }
    }

    /** A class that does what the blocks do and keeps, two by two, what each call answered and what is due. */
    private void write() {
        source.append("public final class ReadmeCalls {\n")
            .append("    public static final java.util.List<Long> SEEN = new java.util.ArrayList<>();\n")
            .append("    private static void seen(long got, long due) { SEEN.add(got); SEEN.add(due); }\n");
        StringBuilder all = new StringBuilder();
        for (int i = 0; i < blocks.size(); i++) {
            source.append("    private static void block").append(i).append("() {\n");
            for (String line : blocks.get(i)) {
                writeLine(line);
            }
            source.append("    }\n");
            all.append("        block").append(i).append("();\n");
        }
        source.append("    public static void all() {\n").append(all).append("    }\n}\n");
    }

    private void writeLine(String line) {
        Matcher call = CALL.matcher(line);
        if (call.matches()) {
            String due = call.group(3);
            boolean named = Character.isLetter(due.charAt(0));
            calls.add(call.group(1));
            source.append("seen(").append(call.group(1)).append(", ").append(named ? "BorderQuestions." + due : due + "L").append(");\n");
        } else {
            Due.holds("an answer stands behind " + line, !line.startsWith("x."));
            source.append(line).append('\n');
        }
    }

    private void tryAll() throws IOException, ReflectiveOperationException {
        Path made = Files.createTempDirectory("readme");
        try {
            Path file = made.resolve("ReadmeCalls.java");
            Files.writeString(file, source.toString());
            JavaCompiler compiler = ToolProvider.getSystemJavaCompiler();
            int failed = compiler.run(null, null, null, "--release", "17", "-proc:none", "-cp", System.getProperty("java.class.path"),
                "-d", made.toString(), file.toString());
            Due.is("compiling what is shown", failed, 0);
            if (failed == 0) {
                compare(run(made));
            }
        } finally {
            remove(made);
        }
    }

    private static List<?> run(Path made) throws IOException, ReflectiveOperationException {
        URL[] places = {made.toUri().toURL()};
        try (URLClassLoader loader = new URLClassLoader(places, ReadmeTests.class.getClassLoader())) {
            Class<?> shown = loader.loadClass("ReadmeCalls");
            try {
                shown.getMethod("all").invoke(null);
            } catch (InvocationTargetException e) {
                Due.holds("what is shown throws " + e.getCause(), false);
            }
            return (List<?>) shown.getField("SEEN").get(null);
        }
    }

    private void compare(List<?> seen) {
        Due.is("how many calls were tried", seen.size(), 2L * calls.size());
        for (int i = 0; i < calls.size() && 2 * i + 1 < seen.size(); i++) {
            Due.is(calls.get(i), (Long) seen.get(2 * i), (Long) seen.get(2 * i + 1));
        }
    }

    private static void remove(Path made) throws IOException {
        try (Stream<Path> files = Files.walk(made)) {
            for (Path one : files.sorted(Comparator.reverseOrder()).toList()) {
                Files.delete(one);
            }
        }
    }
}
