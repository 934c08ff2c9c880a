import java.io.IOException;
import java.lang.reflect.Field;
import java.lang.reflect.Method;
import java.lang.reflect.Modifier;
import java.nio.file.Files;
import java.nio.file.Path;
import java.util.Arrays;
import java.util.HashMap;
import java.util.HashSet;
import java.util.List;
import java.util.Map;
import java.util.Set;
import java.util.TreeSet;
import java.util.regex.Matcher;
import java.util.regex.Pattern;

/**
 * The public face of the document, and those rules of ../shared/LANGUAGE.md that a look at the
 * compiled class or at the words of its source can tell.
 */
public final class LanguageTests {
    private static final Path SOURCE = Path.of("src/main/java/TrailGraph.java");
    private static final Set<Class<?>> TYPES = Set.of(int.class, long.class, short.class, byte.class, char.class,
        boolean.class, int[].class, long[].class, short[].class, byte[].class, char[].class, boolean[].class);
    private static final Set<String> FACE = new TreeSet<>(List.of("int node(int)", "boolean set(int, int)",
        "boolean clear(int)", "int label(int, int)", "int edge(int, int, int, int)", "boolean cut(int)",
        "int remove(int, boolean)", "int begin()", "int commit()", "int rollback()", "int forget()",
        "int start(int, int)", "int hop(int, int, int, int, int, int)", "int token(int)", "boolean where()",
        "boolean spell()", "int matches()", "int rows()", "int row(int, int)", "long total(int)", "int least()",
        "int walk(int, int)", "int reach(int)", "long property(int)", "int there()"));
    private static final int MOST_FIELDS = 42;
    private static final int MOST_LINES = 60;
    private static final int MOST_DEPTH = 6;
    private static final Pattern CALL = Pattern.compile("\\b([a-z]\\w*)\\(");
    private static final Set<String> NOT_CALLS = Set.of("if", "for", "while", "switch", "return");

    private static final Checks CHECKS = new Checks();

    public static void main(String[] args) throws IOException {
        face();
        fields();
        methods();
        String code = Files.readString(SOURCE).replaceAll("(?s)/\\*.*?\\*/", "").replaceAll("//.*", "");
        words(code);
        calls(bodies(code));
        CHECKS.close();
    }

    private static void face() {
        CHECKS.about("rule 1");
        CHECKS.holds("the class is public and final", TrailGraph.class.getModifiers() == (Modifier.PUBLIC | Modifier.FINAL));
        CHECKS.due("nested classes", TrailGraph.class.getDeclaredClasses().length, 0);
        CHECKS.due("constructors", TrailGraph.class.getDeclaredConstructors().length, 1);
        CHECKS.due("public constructors without arguments", TrailGraph.class.getConstructors()[0].getParameterCount(), 0);
        Set<String> found = new TreeSet<>();
        Set<String> publicNames = new HashSet<>();
        for (Method m : TrailGraph.class.getDeclaredMethods()) {
            if (!Modifier.isPrivate(m.getModifiers())) {
                String types = Arrays.toString(m.getParameterTypes()).replace("[", "").replace("]", "");
                found.add(m.getReturnType() + " " + m.getName() + "(" + types + ")");
                publicNames.add(m.getName());
                CHECKS.holds(m + " is public and not static", m.getModifiers() == Modifier.PUBLIC);
            }
        }
        CHECKS.holds("the public methods are " + found, found.equals(FACE));
        for (Method m : TrailGraph.class.getDeclaredMethods()) {
            boolean hidden = Modifier.isPrivate(m.getModifiers());
            CHECKS.holds(m + " bears a public name", !hidden || !publicNames.contains(m.getName()));
        }
        Set<String> constants = new TreeSet<>();
        for (Field f : TrailGraph.class.getDeclaredFields()) {
            if (!Modifier.isPrivate(f.getModifiers())) {
                constants.add(Modifier.toString(f.getModifiers()) + " " + f.getType() + " " + f.getName());
            }
        }
        String kind = "public static final ";
        CHECKS.holds("the constants are " + constants, constants.equals(
            Set.of(kind + "int REFUSED", kind + "int FULL", kind + "int MANY", kind + "long NULL")));
    }

    private static void fields() {
        CHECKS.about("rules 2, 5 and 10");
        int count = 0;
        for (Field f : TrailGraph.class.getDeclaredFields()) {
            if (Modifier.isStatic(f.getModifiers())) {
                CHECKS.holds(f + " is a constant", Modifier.isFinal(f.getModifiers()));
                CHECKS.holds(f + " is an int or long", f.getType() == int.class || f.getType() == long.class);
            } else {
                count++;
                CHECKS.holds(f + " has a type of the language", TYPES.contains(f.getType()));
                CHECKS.holds(f + " is final if an array", !f.getType().isArray() || Modifier.isFinal(f.getModifiers()));
            }
        }
        CHECKS.holds(count + " fields are some forty", count <= MOST_FIELDS);
    }

    private static void methods() {
        CHECKS.about("rules 2, 4 and 10");
        for (Method m : TrailGraph.class.getDeclaredMethods()) {
            CHECKS.holds(m + " has at most seven parameters", m.getParameterCount() <= 7);
            CHECKS.holds(m + " has types of the language", TYPES.containsAll(List.of(m.getParameterTypes())));
            CHECKS.holds(m + " answers no array", !m.getReturnType().isArray());
        }
    }

    private static void words(String code) {
        CHECKS.about("rules 2 to 6");
        for (String word : List.of("import", "package", "float", "double", "null", "throw", "throws", "try", "catch",
            "finally", "synchronized", "assert", "instanceof", "interface", "enum", "record", "native", "this", "var",
            "String", "Object", "Math", "Integer", "Long", "System", "Arrays")) {
            CHECKS.holds("the source says " + word, !Pattern.compile("\\b" + word + "\\b").matcher(code).find());
        }
        // Without a point there is no member of another class or of an array.
        for (String sign : List.of("->", "::", "\"", ".")) {
            CHECKS.holds("the source says " + sign, !code.contains(sign));
        }
        Matcher made = Pattern.compile(".*\\bnew\\b.*").matcher(code);
        while (made.find()) {
            CHECKS.holds("an array is made out of place: " + made.group(),
                made.group().matches("    private final (int|long)\\[\\] \\w+ = new \\1\\[[A-Z_]+\\];"));
        }
    }

    /** The body of each method by its name; the source keeps to one layout. */
    private static Map<String, String> bodies(String code) {
        CHECKS.about("rule 10");
        Map<String, String> bodies = new HashMap<>();
        Matcher m = Pattern.compile("(?ms)^    (?:public|private)[a-z ]* (\\w+)\\([^)]*\\) \\{\n(.*?)^    \\}").matcher(code);
        while (m.find()) {
            bodies.put(m.group(1), m.group(2));
            int lines = m.group(2).split("\n").length;
            CHECKS.holds(m.group(1) + " has " + lines + " lines", lines <= MOST_LINES);
        }
        CHECKS.holds("methods are found", bodies.size() > FACE.size());
        return bodies;
    }

    private static void calls(Map<String, String> bodies) {
        CHECKS.about("rules 8 and 10");
        for (Map.Entry<String, String> body : bodies.entrySet()) {
            Matcher m = CALL.matcher(body.getValue());
            while (m.find()) {
                if (!NOT_CALLS.contains(m.group(1))) {
                    String inside = arguments(body.getValue(), m.end());
                    CHECKS.holds(body.getKey() + " has a call inside a call: " + inside, !CALL.matcher(inside).find());
                }
            }
            int depth = depth(body.getKey(), bodies, 1);
            CHECKS.holds(body.getKey() + " goes " + depth + " deep", depth <= MOST_DEPTH);
        }
    }

    private static String arguments(String body, int from) {
        int open = 1;
        int at = from;
        while (open > 0) {
            open += body.charAt(at) == '(' ? 1 : body.charAt(at) == ')' ? -1 : 0;
            at++;
        }
        return body.substring(from, at);
    }

    /** A recursion shows as a depth far beyond what is allowed. */
    private static int depth(String method, Map<String, String> bodies, int above) {
        int deepest = above;
        Matcher m = CALL.matcher(bodies.get(method));
        while (m.find() && above <= MOST_DEPTH) {
            if (bodies.containsKey(m.group(1))) {
                deepest = Math.max(deepest, depth(m.group(1), bodies, above + 1));
            }
        }
        return deepest;
    }
}
