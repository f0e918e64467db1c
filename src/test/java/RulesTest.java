import java.io.IOException;
import java.lang.management.ManagementFactory;
import java.lang.reflect.Constructor;
import java.lang.reflect.Field;
import java.lang.reflect.Method;
import java.lang.reflect.Modifier;
import java.nio.file.Files;
import java.nio.file.Path;
import java.util.Arrays;
import java.util.List;
import java.util.Set;
import java.util.TreeSet;
import java.util.regex.Matcher;
import java.util.regex.Pattern;

/** The face of the document, and the rules of LANGUAGE.md that a program can look after. */
public final class RulesTest {
    private static final String[] FACE = {"add(int)", "block(int)", "cell(int, int)", "drift(int, int)", "find(int)",
        "goBack(int)", "keep(int)", "letter(int, int)", "odds(int, int, int, int)", "open(int)", "put(int, int)",
        "slot(int, int)", "strike(int)", "told(int)", "turn()", "undo()", "wipe()", "with(int, int)", "word(int, int)"};
    private static final String[] CONSTANTS = {"FULL -1000000004", "NONE -1", "NOT -1000000003", "OUTSIDE -1000000002",
        "UNKNOWN -1000000001"};
    private static final String[] NOT_ALLOWED = {"\\b(throw|throws|try|catch|synchronized|assert|import|package)\\b", "->",
        "::", "\\b(double|float|Object|System|Thread)\\b", "\"", "while"};

    private static int wrong = 0;

    public static void main(String[] args) throws IOException, IllegalAccessException {
        face();
        constants();
        insides();
        source();
        methodsAreShort();
        room();
        time();
        if (wrong != 0) System.exit(1);
    }

    private static void due(String what, Object got, Object want) {
        if (!got.equals(want)) {
            wrong++;
            System.out.println(what + ": " + got + ", due is " + want);
        }
    }

    private static void face() {
        Set<String> seen = new TreeSet<>();
        for (Method m : CrossedWords.class.getDeclaredMethods()) {
            if (Modifier.isPrivate(m.getModifiers())) continue;
            due(m + " is public", Modifier.isPublic(m.getModifiers()) && !Modifier.isStatic(m.getModifiers()), true);
            due(m + " answers", m.getReturnType(), int.class);
            seen.add(m.getName() + Arrays.toString(m.getParameterTypes()).replace('[', '(').replace(']', ')'));
        }
        due("methods", seen, new TreeSet<>(Arrays.asList(FACE)));
        Constructor<?>[] constructors = CrossedWords.class.getDeclaredConstructors();
        due("constructors", constructors.length, 1);
        due("the constructor is public", Modifier.isPublic(constructors[0].getModifiers()), true);
        due("the constructor's parameters", constructors[0].getParameterCount(), 0);
        int modifiers = CrossedWords.class.getModifiers();
        due("public and final", Modifier.isPublic(modifiers) && Modifier.isFinal(modifiers), true);
    }

    private static void constants() throws IllegalAccessException {
        Set<String> seen = new TreeSet<>();
        for (Field f : CrossedWords.class.getDeclaredFields()) {
            if (Modifier.isPrivate(f.getModifiers())) continue;
            int modifiers = f.getModifiers();
            due(f + " is a constant", Modifier.isPublic(modifiers) && Modifier.isStatic(modifiers) && Modifier.isFinal(modifiers), true);
            seen.add(f.getName() + " " + f.getInt(null));
        }
        due("constants", seen, new TreeSet<>(Arrays.asList(CONSTANTS)));
    }

    private static void insides() {
        Set<String> publicNames = new TreeSet<>();
        for (String method : FACE) publicNames.add(method.substring(0, method.indexOf('(')));
        Class<?>[] inside = CrossedWords.class.getDeclaredClasses();
        due("twelve classes at most", inside.length < 12, true);
        for (Class<?> c : inside) {
            due(c + " is private and static", Modifier.isPrivate(c.getModifiers()) && Modifier.isStatic(c.getModifiers()), true);
            look(c, publicNames);
        }
        look(CrossedWords.class, publicNames);
    }

    private static void look(Class<?> c, Set<String> publicNames) {
        int fields = 0;
        for (Field f : c.getDeclaredFields()) {
            if (Modifier.isStatic(f.getModifiers())) due(f + " is final", Modifier.isFinal(f.getModifiers()), true);
            else fields++;
        }
        due(c + " has twenty fields at most", fields <= 20, true);
        for (Method m : c.getDeclaredMethods()) {
            boolean ofTheFace = c == CrossedWords.class && Modifier.isPublic(m.getModifiers());
            due(m + " has a name of its own", ofTheFace || !publicNames.contains(m.getName()), true);
            due(m + " has seven parameters at most", m.getParameterCount() <= 7, true);
        }
    }

    private static void source() throws IOException {
        String text = Files.readString(Path.of("src/main/java/CrossedWords.java"));
        due("signs 1 to 127 alone", text.chars().allMatch(c -> c > 0 && c < 128), true);
        String code = text.replaceAll("(?s)/\\*.*?\\*/", "").replaceAll("//[^\n]*", "");
        for (String pattern : NOT_ALLOWED) {
            Matcher m = Pattern.compile(pattern).matcher(code);
            due("'" + pattern + "' is in the code", m.find(), false);
        }
        // Arrays are touched in Row alone, where each index is looked at.
        int start = code.indexOf("class Row");
        int end = code.indexOf("class ", start + 1);
        due("arrays outside of Row", (code.substring(0, start) + code.substring(end)).indexOf('[') >= 0, false);
        Matcher made = Pattern.compile("new \\w+").matcher(code);
        while (made.find()) {
            String line = code.substring(code.lastIndexOf('\n', made.start()) + 1, code.indexOf('\n', made.start())).trim();
            due("made in a constructor or as a field: " + line, line.matches("(private final \\w+ )?\\w+ = new .*"), true);
        }
    }

    /** A method begins with a line that ends with ") {" and ends with a brace that stands as far in. */
    private static void methodsAreShort() throws IOException {
        List<String> lines = Files.readAllLines(Path.of("src/main/java/CrossedWords.java"));
        int methods = 0;
        for (int start = 0; start < lines.size(); start++) {
            Matcher m = Pattern.compile("( {4}| {8})(\\w+ )*\\w+\\([^()]*\\) \\{").matcher(lines.get(start));
            if (!m.matches() || lines.get(start).trim().matches("(if|for|switch) .*")) continue;
            methods++;
            int end = start;
            while (!lines.get(end).equals(m.group(1) + "}")) end++;
            due(lines.get(start).trim() + " has forty lines at most", end - start <= 40, true);
        }
        due("methods are found", methods > 60, true);
    }

    /** All calls of a run live in one room: after the constructor nothing is made any more. */
    private static void room() {
        com.sun.management.ThreadMXBean bean = (com.sun.management.ThreadMXBean) ManagementFactory.getThreadMXBean();
        allCalls(new CrossedWords());
        CrossedWords x = new CrossedWords();
        long thread = Thread.currentThread().getId();
        long before = bean.getThreadAllocatedBytes(thread);
        for (int i = 0; i < 10; i++) allCalls(x);
        long bytes = bean.getThreadAllocatedBytes(thread) - before;
        due("calls make nothing: fewer bytes than 4096 for " + 10 * 44 + " calls", bytes < 4096, true);
    }

    private static int allCalls(CrossedWords x) {
        int sum = x.drift(16, 7) + x.block(5) + x.open(5) + x.letter(3, 97) + x.put(0, 3) + x.turn() + x.strike(0) + x.add(9);
        for (int what = 0; what < 12; what++) sum += x.told(what);
        for (int what = 0; what < 4; what++) sum += x.cell(0, what);
        for (int what = 0; what < 8; what++) sum += x.slot(0, what);
        for (int what = 0; what < 5; what++) sum += x.word(0, what);
        sum += x.find(9) + x.odds(0, 0, 4, 1) + x.with(0, 0) + x.wipe() + x.undo() + x.keep(0) + x.goBack(0);
        return sum;
    }

    /** Lists that are hard to search: each call ends soon. */
    private static void time() {
        long start = System.nanoTime();
        CrossedWords x = new CrossedWords();
        for (int i = 0; i < 16; i++) x.add(400 + (i & 1) + 7 * (i >> 1 & 1) + 49 * (i >> 2 & 1) + 343 * (i >> 3 & 1));
        for (int cell = 0; cell < 16; cell++) {
            x.letter(cell, 97 + cell % 2);
            x.told(8);
            x.told(9);
            for (int word = 0; word < 16; word++) x.with(7, word);
            x.letter(cell, -1);
            x.block(cell);
            x.told(8);
            x.told(9);
            x.open(cell);
        }
        due("hard searches end within ten seconds", System.nanoTime() - start < 10_000_000_000L, true);
    }
}
