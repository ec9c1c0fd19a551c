import java.lang.reflect.Method;
import java.lang.reflect.Modifier;
import java.nio.file.Files;
import java.nio.file.Path;
import java.util.regex.Matcher;
import java.util.regex.Pattern;

/** The example of README.md answers what stands behind each of its calls; its table names every call. */
public final class ReadmeTest {
    private static final Due DUE = new Due("ReadmeTest");
    private static final Pattern CALL = Pattern.compile("x\\.(\\w+)\\(([^)]*)\\); +// (-?\\d+): .*");

    public static void main(String[] args) throws Exception {
        String readme = Files.readString(Path.of("README.md"));
        example(readme);
        table(readme);
        DUE.end();
    }

    private static void example(String readme) throws Exception {
        UnlikeCounts x = new UnlikeCounts();
        int calls = 0;
        for (String line : readme.lines().filter(line -> line.startsWith("x.")).toList()) {
            Matcher call = CALL.matcher(line);
            boolean known = call.matches();
            DUE.holds("a call with its answer: " + line, known);
            if (known) {
                DUE.is(line, answer(x, call.group(1), call.group(2)), Long.parseLong(call.group(3)));
                calls++;
            }
        }
        DUE.holds("the example has calls", calls > 0);
    }

    private static int answer(UnlikeCounts x, String name, String list) throws Exception {
        String[] texts = list.isEmpty() ? new String[0] : list.split(", ");
        for (Method method : UnlikeCounts.class.getMethods()) {
            if (method.getName().equals(name) && method.getParameterCount() == texts.length) {
                Object[] values = new Object[texts.length];
                for (int k = 0; k < texts.length; k++) {
                    values[k] = value(texts[k], method.getParameterTypes()[k]);
                }
                return (Integer) method.invoke(x, values);
            }
        }
        throw new IllegalArgumentException("no such call: " + name + "(" + list + ")");
    }

    private static Object value(String text, Class<?> type) {
        if (type == boolean.class) {
            return Boolean.valueOf(text);
        }
        if (type == long.class) {
            return Long.decode(text.replace("L", ""));
        }
        return Integer.decode(text);
    }

    private static void table(String readme) {
        String calls = readme.substring(readme.indexOf("### Calls"), readme.indexOf("## Tests"));
        for (Method method : UnlikeCounts.class.getDeclaredMethods()) {
            if (Modifier.isPublic(method.getModifiers())) {
                DUE.holds("the table names " + method.getName(), calls.contains("`" + method.getName() + "`"));
            }
        }
    }
}
