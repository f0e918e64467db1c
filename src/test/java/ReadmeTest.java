import java.io.IOException;
import java.lang.reflect.Method;
import java.nio.file.Files;
import java.nio.file.Path;
import java.util.Map;
import java.util.TreeSet;
import java.util.regex.Matcher;
import java.util.regex.Pattern;

/** The example of README.md: each of its calls answers what stands behind it there. */
public final class ReadmeTest extends Checks {
    private static final Pattern CALL = Pattern.compile("x\\.(\\w+)\\(([^)]*)\\); +// (-?\\w+)(:.*)?");
    private static final Map<String, Integer> NAMES = Map.of("NONE", NONE, "UNKNOWN", UNKNOWN, "OUTSIDE", OUTSIDE,
        "NOT", NOT, "FULL", FULL);

    public static void main(String[] args) throws IOException, ReflectiveOperationException {
        about = "README.md";
        String text = Files.readString(Path.of("README.md"));
        example(text.split("```")[1]);
        allCallsAreTold(text);
        end();
    }

    private static void example(String code) throws ReflectiveOperationException {
        CrossedWords x = null;
        int calls = 0;
        for (String line : code.split("\n")) {
            if (line.equals("java") || line.startsWith("//")) continue;
            if (line.equals("CrossedWords x = new CrossedWords();")) { x = new CrossedWords(); continue; }
            Matcher m = CALL.matcher(line);
            due("a call with its answer: " + line, m.matches() ? 1 : 0, 1);
            if (!m.matches()) continue;
            String want = m.group(3);
            due(line, call(x, m.group(1), m.group(2)), NAMES.containsKey(want) ? NAMES.get(want) : Integer.parseInt(want));
            calls++;
        }
        due("the example has calls", calls > 30 ? 1 : 0, 1);
    }

    private static int call(CrossedWords x, String name, String arguments) throws ReflectiveOperationException {
        String[] parts = arguments.isEmpty() ? new String[0] : arguments.split(", ");
        Object[] values = new Object[parts.length];
        Class<?>[] types = new Class<?>[parts.length];
        for (int i = 0; i < parts.length; i++) {
            values[i] = parts[i].charAt(0) == '\'' ? (int) parts[i].charAt(1) : Integer.parseInt(parts[i]);
            types[i] = int.class;
        }
        return (int) CrossedWords.class.getMethod(name, types).invoke(x, values);
    }

    private static void allCallsAreTold(String text) {
        TreeSet<String> names = new TreeSet<>();
        for (Method method : CrossedWords.class.getDeclaredMethods()) {
            if (java.lang.reflect.Modifier.isPublic(method.getModifiers())) names.add(method.getName());
        }
        for (String name : names) due("tells of " + name, text.contains("`" + name + "(") ? 1 : 0, 1);
    }
}
