import java.io.IOException;
import java.lang.reflect.Method;
import java.lang.reflect.Modifier;
import java.nio.file.Files;
import java.nio.file.Path;
import java.util.Arrays;
import java.util.regex.Matcher;
import java.util.regex.Pattern;

/** What README.md says of the calls: its example is run, and its table must have each call. */
public final class ReadmeTests {
    private static final Pattern CALL = Pattern.compile("(?m)^g\\.((\\w+)\\((.*)\\)); +// (-?\\w+)");
    private static final Checks CHECKS = new Checks();

    public static void main(String[] args) throws IOException, ReflectiveOperationException {
        String text = Files.readString(Path.of("README.md"));
        Matcher block = Pattern.compile("(?s)```java\n(.*?)```").matcher(text);
        CHECKS.about("README.md");
        CHECKS.holds("it has an example", block.find());
        runExample(block.group(1));
        for (Method method : publicMethods()) {
            boolean inTable = Pattern.compile("(?m)^\\| `" + method.getName() + "\\(").matcher(text).find();
            CHECKS.holds("its table has " + method.getName(), inTable);
        }
        CHECKS.close();
    }

    private static Method[] publicMethods() {
        return Arrays.stream(TrailGraph.class.getDeclaredMethods())
            .filter(m -> Modifier.isPublic(m.getModifiers())).toArray(Method[]::new);
    }

    private static void runExample(String example) throws ReflectiveOperationException {
        TrailGraph graph = new TrailGraph();
        Matcher call = CALL.matcher(example);
        int calls = 0;
        while (call.find()) {
            Object answer = named(call.group(2)).invoke(graph, arguments(call.group(3)));
            String due = call.group(4).equals("REFUSED") ? "-1" : call.group(4);
            CHECKS.holds(call.group(1) + " answered " + answer + ", README.md says " + due, due.equals("" + answer));
            calls++;
        }
        CHECKS.due("lines of the example that are read", calls, example.split("\ng\\.", -1).length - 1);
    }

    private static Method named(String name) {
        for (Method method : publicMethods()) {
            if (method.getName().equals(name)) {
                return method;
            }
        }
        throw new IllegalArgumentException("README.md calls " + name + ", which there is not");
    }

    private static Object[] arguments(String list) {
        String[] words = list.isEmpty() ? new String[0] : list.split(", ");
        Object[] values = new Object[words.length];
        for (int i = 0; i < words.length; i++) {
            boolean truth = words[i].equals("true") || words[i].equals("false");
            values[i] = truth ? (Object) Boolean.valueOf(words[i]) : (Object) Integer.valueOf(words[i]);
        }
        return values;
    }
}
