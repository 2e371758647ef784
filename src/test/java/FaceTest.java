import java.io.IOException;
import java.lang.reflect.Constructor;
import java.lang.reflect.Field;
import java.lang.reflect.InvocationTargetException;
import java.lang.reflect.Method;
import java.lang.reflect.Modifier;
import java.nio.file.Files;
import java.nio.file.Path;
import java.util.Arrays;
import java.util.Random;
import java.util.Set;
import java.util.TreeSet;
import java.util.regex.Matcher;
import java.util.regex.Pattern;

/** The public face as the document has it, rules of the language that can be seen, and that no call throws. */
public final class FaceTest {
    private static int wrong = 0;

    private static void check(boolean good, String what) {
        if (!good) {
            wrong++;
            System.out.println("FaceTest: " + what);
        }
    }

    private static String told(Method m) {
        String types = Arrays.toString(Arrays.stream(m.getParameterTypes()).map(Class::getName).toArray());
        return m.getReturnType().getName() + " " + m.getName() + "(" + types.substring(1, types.length() - 1) + ")";
    }

    /** The rows of the face in the document, told as the class's own members are below. */
    private static Set<String> rowsOfFace(String document, String pattern, String told) {
        int from = document.indexOf("## The public face");
        int to = document.indexOf("## Terms");
        check(from >= 0 && to > from, "the document has a face");
        Set<String> rows = new TreeSet<>();
        Matcher m = Pattern.compile(pattern).matcher(document.substring(Math.max(0, from), Math.max(0, to)));
        while (m.find()) {
            rows.add(m.group().replaceAll(pattern, told));
        }
        return rows;
    }

    private static Set<String> methodsOfFace(String document) {
        Set<String> methods = new TreeSet<>();
        for (String row : rowsOfFace(document, "public (int|long) (\\w+)\\(([^)]*)\\);", "$1 $2($3)")) {
            methods.add(row.replaceAll("int \\w+([,)])", "int$1"));
        }
        return methods;
    }

    private static void face(String document) throws IllegalAccessException {
        Class<?> type = HalfCuts.class;
        check(Modifier.isPublic(type.getModifiers()) && Modifier.isFinal(type.getModifiers()), "public and final");
        Set<String> methods = new TreeSet<>();
        Set<String> names = new TreeSet<>();
        for (Method m : type.getDeclaredMethods()) {
            if (!Modifier.isPrivate(m.getModifiers())) {
                check(Modifier.isPublic(m.getModifiers()) && !Modifier.isStatic(m.getModifiers()), "method " + m);
                methods.add(told(m));
                names.add(m.getName());
            }
        }
        check(methods.size() == 33 && methods.equals(methodsOfFace(document)), "methods are " + methods);
        for (Class<?> inner : type.getDeclaredClasses()) {
            check(Modifier.isStatic(inner.getModifiers()), "static " + inner);
            check(inner.getDeclaredFields().length <= 20, "fields of " + inner);
            for (Method m : inner.getDeclaredMethods()) {
                check(!names.contains(m.getName()), "a name of the face again: " + m);
            }
        }
        check(type.getDeclaredClasses().length <= 11, "classes");
        for (Method m : type.getDeclaredMethods()) {
            check(!Modifier.isPrivate(m.getModifiers()) || !names.contains(m.getName()), "a name of the face again: " + m);
        }
        Constructor<?>[] constructors = type.getDeclaredConstructors();
        check(constructors.length == 1 && Modifier.isPublic(constructors[0].getModifiers())
            && constructors[0].getParameterCount() == 0, "one public constructor");
        constants(type, document);
    }

    private static void constants(Class<?> type, String document) throws IllegalAccessException {
        Set<String> want = rowsOfFace(document, "([A-Z]+) = (-\\d+|Long\\.MIN_VALUE)", "$1=$2");
        Set<String> found = new TreeSet<>();
        int fields = 0;
        for (Field f : type.getDeclaredFields()) {
            if (!Modifier.isPrivate(f.getModifiers())) {
                found.add(f.getName() + "=" + (f.getType() == long.class && f.getLong(null) == Long.MIN_VALUE
                    ? "Long.MIN_VALUE" : f.get(null)));
            }
            check(!Modifier.isStatic(f.getModifiers()) || Modifier.isFinal(f.getModifiers()), "static state: " + f);
            fields += Modifier.isStatic(f.getModifiers()) ? 0 : 1;
        }
        check(found.size() == 6 && found.equals(want), "constants are " + found);
        check(fields <= 20, "fields of the class");
    }

    private static void source() throws IOException {
        String whole = Files.readString(Path.of("src/main/java/HalfCuts.java"));
        check(whole.chars().allMatch(c -> c == '\n' || c >= 32 && c < 127), "plain signs alone");
        String code = whole.replaceAll("(?s)/\\*.*?\\*/", " ").replaceAll("//[^\n]*", " ").replaceAll("'.'", " 0 ");
        String[] never = {"throw", "throws", "try", "catch", "finally", "synchronized", "assert", "package", "float",
            "double", "Float", "Double", "Object", "System\\.(?!arraycopy)\\w+", "Arrays\\.(?!fill\\b)\\w+",
            "Math\\.(?!min\\b|max\\b)\\w+", "Integer\\.(?!bitCount\\b)\\w+", "Long\\.(?!MIN_VALUE\\b)\\w+",
            "import (?!java\\.util\\.Arrays;)[^\n]*", "->", "::", "protected", "extends", "implements"};
        for (String word : never) {
            String edge = Character.isLetter(word.charAt(0)) ? "\\b" : "";
            Matcher m = Pattern.compile(edge + "(?:" + word + ")" + edge).matcher(code);
            check(!m.find(), "the source has " + word);
        }
        methodsAreShort(whole.split("\n"));
        noCallMakesObjects(code.split("\n"));
    }

    private static void methodsAreShort(String[] lines) {
        int begun = -1;
        for (int k = 0; k < lines.length; k++) {
            if (lines[k].matches("( {4}| {8})[\\w\\[\\] ]+\\([^;]*\\) \\{") && !lines[k].trim().matches("(if|for|while|switch).*")) {
                begun = k;
            }
            if (begun >= 0 && lines[k].matches("( {4}| {8})\\}") && indent(lines[k]) == indent(lines[begun])) {
                check(k - begun < 60, "a long method at line " + (begun + 1));
                begun = -1;
            }
        }
    }

    /** All calls of a run live in one room, so what is made is made once: by a field's first value, or in the constructor. */
    private static void noCallMakesObjects(String[] rows) {
        for (String row : rows) {
            if (row.matches(".*\\bnew\\b.*")) {
                check(row.matches(" +(private )?final [\\w\\[\\]]+ \\w+ = new .*;") || row.trim().equals("sheets[k] = new Sheet();"),
                    "made in a call: " + row.trim());
            }
        }
    }

    private static int indent(String line) {
        return line.length() - line.stripLeading().length();
    }

    private static int any(Random random) {
        int[] edges = {Integer.MIN_VALUE, Integer.MIN_VALUE + 1, Integer.MAX_VALUE, Integer.MAX_VALUE - 1, 1 << 30, -60, 60, 61,
            1056964608, 1065353216, 0x7fc00000};
        return random.nextInt(4) == 0 ? edges[random.nextInt(edges.length)] : random.nextInt(23) - 2;
    }

    private static void neverThrows() throws IllegalAccessException {
        Method[] methods = Arrays.stream(HalfCuts.class.getDeclaredMethods())
            .filter(m -> Modifier.isPublic(m.getModifiers())).sorted((a, b) -> told(a).compareTo(told(b))).toArray(Method[]::new);
        String text = "h;p5l;b3r;d2l;p9R;b1l;p4r,013,24,1350,02,45";
        for (int seed = 0; seed < 400; seed++) {
            Random random = new Random(seed);
            HalfCuts x = new HalfCuts();
            if (seed % 2 == 1) {
                x.sheet(0, 2, text.length());
                for (int i = 0; i < text.length(); i++) {
                    x.put(0, i, text.charAt(i));
                }
                x.circuit(0, 2, 0, text.length());
            }
            for (int call = 0; call < 512; call++) {
                Method m = methods[random.nextInt(methods.length)];
                Object[] with = new Object[m.getParameterCount()];
                for (int k = 0; k < with.length; k++) {
                    with[k] = any(random);
                }
                try {
                    m.invoke(x, with);
                } catch (InvocationTargetException e) {
                    check(false, m + " with " + Arrays.toString(with) + " threw " + e.getCause());
                }
            }
        }
    }

    public static void main(String[] args) throws IOException, IllegalAccessException {
        face(Files.readString(Path.of("../shared/DOC.md")));
        source();
        neverThrows();
        System.out.println("FaceTest: " + wrong + " wrong");
        if (wrong != 0) {
            System.exit(1);
        }
    }
}
