import java.io.IOException;
import java.lang.reflect.Field;
import java.lang.reflect.Method;
import java.lang.reflect.Modifier;
import java.nio.file.Files;
import java.nio.file.Path;
import java.util.HashSet;
import java.util.List;
import java.util.Set;
import java.util.TreeSet;
import java.util.regex.Matcher;
import java.util.regex.Pattern;

/** Those rules of LANGUAGE.md that can be seen from the file and from the compiled class. */
public final class SourceRules {
    private static final Set<String> METHODS = Set.of("reader", "write", "erase", "fault", "moves", "move", "drop", "pair", "change",
        "hush", "taken", "may", "runs", "run", "shapes", "shape", "least", "first", "useless", "twofold", "both", "parted",
        "fillings", "filled", "mend", "count");
    private static final Set<String> CONSTANTS = Set.of("NONE", "UNKNOWN", "OUTSIDE", "NOT", "FULL", "MANY");
    private static final Set<String> LIBRARY = Set.of("Math.max", "Math.min", "Integer.bitCount", "Long.bitCount", "System.arraycopy");
    private static int passed = 0;
    private static int failed = 0;

    private static void holds(String rule, boolean holds) {
        if (holds) {
            passed++;
        } else {
            failed++;
            System.out.println("not so: " + rule);
        }
    }

    public static void main(String[] args) throws IOException {
        face();
        for (Class<?> inside : NameReaders.class.getDeclaredClasses()) inside(inside);
        holds("twelve classes", NameReaders.class.getDeclaredClasses().length < 12);
        List<String> lines = Files.readAllLines(Path.of("src/main/java/NameReaders.java"));
        lengths(lines);
        words(lines);
        System.out.println(passed + " passed, " + failed + " failed");
        if (failed != 0) System.exit(1);
    }

    private static void face() {
        holds("final", Modifier.isFinal(NameReaders.class.getModifiers()));
        holds("one constructor", NameReaders.class.getDeclaredConstructors().length == 1);
        Set<String> open = new HashSet<>();
        for (Method m : NameReaders.class.getDeclaredMethods()) {
            if (Modifier.isPublic(m.getModifiers())) {
                open.add(m.getName());
            } else {
                holds(m + " is private", Modifier.isPrivate(m.getModifiers()) && !METHODS.contains(m.getName()));
            }
            holds(m + " has seven parameters at most", m.getParameterCount() <= 7);
        }
        holds("the face's methods", open.equals(METHODS));
        Set<String> constants = new HashSet<>();
        int fields = 0;
        for (Field f : NameReaders.class.getDeclaredFields()) {
            boolean isStatic = Modifier.isStatic(f.getModifiers());
            if (Modifier.isPublic(f.getModifiers())) constants.add(f.getName());
            else holds(f + " is private", Modifier.isPrivate(f.getModifiers()));
            holds(f + " is final, if static", !isStatic || Modifier.isFinal(f.getModifiers()));
            if (!isStatic) fields++;
        }
        holds("the face's constants", constants.equals(CONSTANTS));
        holds("twenty fields", fields <= 20);
    }

    private static void inside(Class<?> c) {
        holds(c + " is static", Modifier.isStatic(c.getModifiers()));
        int fields = 0;
        for (Field f : c.getDeclaredFields()) {
            boolean isStatic = Modifier.isStatic(f.getModifiers());
            holds(f + " is a constant, if static", !isStatic || Modifier.isFinal(f.getModifiers()) && f.getType() == int.class);
            if (!isStatic) fields++;
        }
        holds(c + " has twenty fields at most", fields <= 20);
        for (Method m : c.getDeclaredMethods()) {
            holds(m + " has a name of its own", !METHODS.contains(m.getName()) && !m.isSynthetic());
            holds(m + " has seven parameters at most", m.getParameterCount() <= 7);
        }
    }

    private static void lengths(List<String> lines) {
        int begin = -1;
        for (int i = 0; i < lines.size(); i++) {
            String line = lines.get(i);
            if (line.matches(" {4}( {4})?[a-zA-Z].*\\) \\{")) begin = i;
            if (line.matches(" {4}( {4})?}") && begin >= 0) {
                holds("sixty lines at most, from line " + (begin + 1), i - begin <= 60);
                begin = -1;
            }
            holds("line " + (i + 1) + " is not too long", line.length() <= 130);
        }
    }

    private static void words(List<String> lines) {
        String code = String.join("\n", lines).replaceAll("(?s)/\\*.*?\\*/", "").replaceAll("//[^\n]*", "");
        for (String word : List.of("throw", "throws", "try", "catch", "synchronized", "assert", "import", "package", "double", "float",
            "instanceof", "record", "hashCode", "toString", "Object", "Exact")) {
            holds("no " + word, !Pattern.compile("\\b" + word + "\\b|Exact\\(").matcher(code).find());
        }
        holds("no lambda, no method reference", !code.contains("->") && !code.contains("::"));
        holds("no static block", !Pattern.compile("static\\s*\\{").matcher(code).find());
        holds("signs 1 to 127", code.chars().allMatch(c -> c > 0 && c < 128));
        Set<String> own = new TreeSet<>();
        for (Class<?> c : NameReaders.class.getDeclaredClasses()) own.add(c.getSimpleName());
        Matcher m = Pattern.compile("\\b([A-Z][a-z]\\w*)\\.(\\w+)").matcher(code);
        while (m.find()) holds(m.group() + " is in the list", own.contains(m.group(1)) || LIBRARY.contains(m.group()));
    }
}
