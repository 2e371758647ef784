import java.io.File;
import java.io.IOException;
import java.lang.reflect.InvocationTargetException;
import java.lang.reflect.Method;
import java.lang.reflect.Modifier;
import java.net.URL;
import java.net.URLClassLoader;
import java.nio.file.Files;
import java.nio.file.Path;
import java.util.Comparator;
import java.util.List;
import java.util.regex.Matcher;
import java.util.regex.Pattern;
import java.util.stream.Stream;
import javax.tools.ToolProvider;

/** The program in README.md: it compiles, and each call answers what the page says behind it. */
public final class ReadmeTest {
    /** A call alone in its row, and the answer: a number, a constant or an expression, up to words that explain. */
    private static final Pattern ANSWERED =
        Pattern.compile("(x\\.\\w+\\(.*\\)); +// (-?\\d+\\b|HalfCuts\\.\\w+|Float\\.\\w+\\([^)]*\\)).*");
    private static final Pattern CALL = Pattern.compile("\\bx\\.(\\w+)\\(");

    private static int calls = 0;
    private static int wrong = 0;

    /** The page's program calls this. */
    public static void due(String call, long got, long want) {
        calls++;
        if (got != want) {
            fail(call + " answers " + got + ", README.md says " + want);
        }
    }

    private static void fail(String what) {
        wrong++;
        System.out.println("ReadmeTest: " + what);
    }

    private static String programOf(String page) {
        StringBuilder program = new StringBuilder("public final class Page {\n  public static void run() {\n");
        Matcher block = Pattern.compile("(?s)```java\n(.*?)```").matcher(page);
        while (block.find()) {
            for (String row : block.group(1).split("\n")) {
                program.append(rowOf(row)).append('\n');
            }
        }
        return program.append("  }\n}\n").toString();
    }

    private static String rowOf(String row) {
        Matcher answered = ANSWERED.matcher(row);
        if (answered.matches()) {
            String call = answered.group(1);
            return "ReadmeTest.due(\"" + call + "\", " + call + ", " + answered.group(2) + ");";
        }
        if (row.startsWith("x.")) {
            fail("no answer stands behind " + row);
        }
        return row;
    }

    private static void allAreUsed(String program) {
        List<String> used = CALL.matcher(program).results().map(found -> found.group(1)).toList();
        for (Method m : HalfCuts.class.getDeclaredMethods()) {
            if (Modifier.isPublic(m.getModifiers()) && !used.contains(m.getName())) {
                fail("README.md does not use " + m.getName());
            }
        }
    }

    private static void run(String program, Path dir) throws IOException, ReflectiveOperationException {
        Path source = dir.resolve("Page.java");
        Files.writeString(source, program);
        String[] with = {"-d", dir.toString(), "-cp", System.getProperty("java.class.path"), source.toString()};
        if (ToolProvider.getSystemJavaCompiler().run(null, null, null, with) != 0) {
            fail("the program of README.md does not compile");
            return;
        }
        try (URLClassLoader loader = new URLClassLoader(new URL[] {dir.toUri().toURL()}, ReadmeTest.class.getClassLoader())) {
            loader.loadClass("Page").getMethod("run").invoke(null);
        } catch (InvocationTargetException e) {
            fail("the program of README.md threw " + e.getCause());
        }
    }

    private static void delete(Path dir) throws IOException {
        try (Stream<Path> all = Files.walk(dir)) {
            all.sorted(Comparator.reverseOrder()).map(Path::toFile).forEach(File::delete);
        }
    }

    public static void main(String[] args) throws IOException, ReflectiveOperationException {
        String program = programOf(Files.readString(Path.of("README.md")));
        allAreUsed(program);
        Path dir = Files.createTempDirectory("readme");
        try {
            run(program, dir);
        } finally {
            delete(dir);
        }
        System.out.println("ReadmeTest: " + calls + " calls, " + wrong + " wrong");
        if (wrong != 0 || calls == 0) {
            System.exit(1);
        }
    }
}
