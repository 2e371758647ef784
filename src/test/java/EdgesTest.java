import java.io.IOException;
import java.lang.reflect.InvocationTargetException;
import java.lang.reflect.Method;
import java.nio.file.Files;
import java.nio.file.Path;
import java.util.Arrays;
import java.util.BitSet;
import java.util.Comparator;
import java.util.LinkedHashMap;
import java.util.Map;
import java.util.regex.Matcher;
import java.util.regex.Pattern;

/**
 * A test for each sentence of the document. A test's name begins with where the sentence stands: p02 is promise 2,
 * terms the Terms, what the part ahead of the face. Its words stand in @Says and must be in the document there, once;
 * and no words of the promises and Terms may be left without a test.
 */
public final class EdgesTest {
    private static final Class<?>[] TESTS = {
        RefusalEdges.class, CircuitEdges.class, MovesEdges.class, CutsEdges.class, HeavyEdges.class, SheetEdges.class,
    };
    private static final int PROMISES = 34;

    private static int tests = 0;
    private static int failed = 0;

    public static void main(String[] args) throws IOException, IllegalAccessException {
        Map<String, String> parts = partsOfDocument(Files.readString(Path.of("../shared/DOC.md")));
        Map<String, BitSet> tested = new LinkedHashMap<>();
        for (String part : parts.keySet()) {
            tested.put(part, new BitSet());
        }
        for (Class<?> type : TESTS) {
            Method[] methods = type.getDeclaredMethods();
            Arrays.sort(methods, Comparator.comparing(Method::getName));
            for (Method m : methods) {
                if (m.isAnnotationPresent(Says.class)) {
                    stand(m, parts, tested);
                    run(m);
                }
            }
        }
        for (String part : parts.keySet()) {
            leftOut(part, parts.get(part), tested.get(part));
        }
        System.out.println("EdgesTest: " + tests + " tests, " + Edge.checksSoFar() + " checks, " + failed + " failed");
        if (failed != 0) {
            System.exit(1);
        }
    }

    /** The words of each part in one line: p01 to p34, terms, what. */
    private static Map<String, String> partsOfDocument(String document) {
        Map<String, String> parts = new LinkedHashMap<>();
        for (String section : document.split("(?m)^## ")) {
            Matcher promise = Pattern.compile("(?s)Promise (\\d+): [^\n]*\n+`[^`]*`: (.*)").matcher(section);
            if (promise.matches()) {
                parts.put(String.format("p%02d", Integer.parseInt(promise.group(1))), inOneLine(promise.group(2)));
            } else if (section.startsWith("Terms\n")) {
                String words = section.substring("Terms".length());
                parts.put("terms", inOneLine(words.replaceAll("(?m)^(Ahead of the calls|```).*$", "").replaceAll("==== \\d", "")));
            } else if (section.startsWith("What it is\n")) {
                parts.put("what", inOneLine(section.substring(section.indexOf("An object is used"))));
            }
        }
        if (parts.size() != PROMISES + 2) {
            fail("the document has the parts " + parts.keySet());
        }
        return parts;
    }

    private static String inOneLine(String words) {
        return words.replaceAll("\\s+", " ").trim();
    }

    private static void stand(Method m, Map<String, String> parts, Map<String, BitSet> tested) {
        String part = m.getName().substring(0, m.getName().indexOf('_'));
        String says = m.getAnnotation(Says.class).value();
        String words = parts.getOrDefault(part, "");
        int at = words.indexOf(says);
        if (at < 0 || words.indexOf(says, at + 1) >= 0) {
            fail(m.getName() + ": not once in the document's part " + part + ": " + says);
            return;
        }
        tested.get(part).set(at, at + says.length());
    }

    private static void run(Method m) throws IllegalAccessException {
        int checksAhead = Edge.checksSoFar();
        int wrongAhead = Edge.wrongSoFar();
        tests++;
        try {
            m.invoke(null);
        } catch (InvocationTargetException e) {
            fail(m.getName() + " threw " + e.getCause());
            return;
        }
        if (Edge.wrongSoFar() > wrongAhead) {
            fail(m.getName() + ": \"" + m.getAnnotation(Says.class).value() + "\"");
        } else if (Edge.checksSoFar() == checksAhead) {
            fail(m.getName() + " checks nothing");
        }
    }

    private static void leftOut(String part, String words, BitSet tested) {
        StringBuilder rest = new StringBuilder();
        for (int at = 0; at < words.length(); at++) {
            rest.append(tested.get(at) ? '_' : words.charAt(at));
        }
        for (String piece : rest.toString().split("_+")) {
            if (piece.matches(".*[A-Za-z0-9].*")) {
                fail("no test stands for these words of " + part + ": " + piece);
            }
        }
    }

    private static void fail(String what) {
        failed++;
        System.out.println("EdgesTest: " + what);
    }
}
