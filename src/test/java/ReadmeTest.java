import java.io.IOException;
import java.lang.reflect.InvocationTargetException;
import java.lang.reflect.Method;
import java.lang.reflect.Modifier;
import java.nio.file.DirectoryStream;
import java.nio.file.Files;
import java.nio.file.Path;
import java.util.Map;
import java.util.TreeMap;
import java.util.regex.Matcher;
import java.util.regex.Pattern;

/** README.md tells the truth: its example's answers, its table of the calls, and its names of the tests. */
final class ReadmeTest {
    private static final Due due = new Due();
    private static final Path ROOT = Path.of(System.getProperty("takedesk.root", "."));

    public static void main(String[] args) throws IOException, ReflectiveOperationException {
        String readme = Files.readString(ROOT.resolve("README.md"));
        Map<String, Method> face = face();
        example(readme, face);
        callTable(readme, face);
        testNames(readme);
        due.end();
    }

    private static Map<String, Method> face() {
        Map<String, Method> face = new TreeMap<>();
        for (Method method : TakeDesk.class.getDeclaredMethods()) {
            if (Modifier.isPublic(method.getModifiers())) {
                face.put(method.getName(), method);
            }
        }
        return face;
    }

    private static void example(String readme, Map<String, Method> face) throws ReflectiveOperationException {
        TakeDesk desk = new TakeDesk();
        Pattern call = Pattern.compile("desk\\.(\\w+)\\(([^)]*)\\);\\s*// (-?\\d+)\\b.*");
        int calls = 0;
        for (String line : readme.split("\n")) {
            if (!line.startsWith("desk.")) {
                continue;
            }
            Matcher parts = call.matcher(line);
            boolean known = parts.matches() && face.containsKey(parts.group(1));
            due.holds("a call of the face with its answer: " + line, known);
            if (known) {
                calls++;
                due.is(line, answer(desk, face.get(parts.group(1)), parts.group(2)), Integer.parseInt(parts.group(3)));
            }
        }
        due.holds("the example has calls", calls > 20);
    }

    private static int answer(TakeDesk desk, Method method, String told) throws ReflectiveOperationException {
        String[] words = told.isBlank() ? new String[0] : told.split(", ");
        Object[] values = new Object[words.length];
        for (int i = 0; i < words.length; i++) {
            boolean isNumber = method.getParameterTypes()[i] == int.class;
            values[i] = isNumber ? (Object) Integer.valueOf(words[i]) : (Object) Boolean.valueOf(words[i]);
        }
        try {
            return (Integer) method.invoke(desk, values);
        } catch (InvocationTargetException thrown) {
            throw new IllegalStateException("no call throws", thrown);
        }
    }

    private static void callTable(String readme, Map<String, Method> face) {
        Map<String, Integer> told = new TreeMap<>();
        Matcher row = Pattern.compile("(?m)^\\| `(\\w+)\\(([^)]*)\\)` \\|").matcher(readme);
        while (row.find()) {
            int words = row.group(2).isEmpty() ? 0 : row.group(2).split(", ").length;
            due.holds(row.group(1) + " stands once", told.put(row.group(1), words) == null);
        }
        Map<String, Integer> wanted = new TreeMap<>();
        for (Method method : face.values()) {
            wanted.put(method.getName(), method.getParameterCount());
        }
        due.holds("the calls are " + wanted + ", not " + told, wanted.equals(told));
    }

    private static void testNames(String readme) throws IOException {
        int tests = 0;
        try (DirectoryStream<Path> files = Files.newDirectoryStream(ROOT.resolve("src/test/java"), "*Test.java")) {
            for (Path file : files) {
                String name = file.getFileName().toString().replace(".java", "");
                due.holds(name + " stands in README.md", readme.contains("| `" + name + "` |"));
                tests++;
            }
        }
        Matcher named = Pattern.compile("(?m)^\\| `(\\w+Test)` \\|").matcher(readme);
        int names = 0;
        while (named.find()) {
            names++;
        }
        due.holds("each test is named once: " + tests + " tests, " + names + " names", tests == names);
    }
}
