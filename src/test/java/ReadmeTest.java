import java.io.IOException;
import java.lang.reflect.Field;
import java.lang.reflect.Method;
import java.lang.reflect.Modifier;
import java.nio.file.Files;
import java.nio.file.Path;
import java.util.Arrays;
import java.util.Map;
import java.util.TreeMap;
import java.util.regex.Matcher;
import java.util.regex.Pattern;
import java.util.stream.Stream;

/** README.md's example answers what it says, and it names every call, code and test. */
public final class ReadmeTest {
    private static final Due DUE = new Due();
    private static final Pattern EXAMPLE = Pattern.compile("```java\n(.*?)```", Pattern.DOTALL);
    /** A call, and behind it, first, the number or the code that it answers. */
    private static final Pattern CALL =
            Pattern.compile("t\\.(\\w+)\\(([-0-9, ]*)\\); +// (-?[0-9]+|[A-Z_]+)\\b.*");

    private final String readme;
    private final Map<String, Method> methods = new TreeMap<>();
    private final Map<String, Integer> codes = new TreeMap<>();

    public static void main(String[] args) throws Exception {
        ReadmeTest test = new ReadmeTest();
        test.example();
        test.namesCallsAndCodes();
        test.namesTests();
        DUE.end();
    }

    private ReadmeTest() throws IOException, IllegalAccessException {
        readme = Files.readString(Path.of("README.md"));
        for (Method method : StatementTables.class.getDeclaredMethods()) {
            if (Modifier.isPublic(method.getModifiers())) {
                methods.put(method.getName(), method);
            }
        }
        for (Field field : StatementTables.class.getDeclaredFields()) {
            if (Modifier.isPublic(field.getModifiers())) {
                codes.put(field.getName(), field.getInt(null));
            }
        }
    }

    /** Every line of the example but the first is empty or a call with its answer. */
    private void example() throws ReflectiveOperationException {
        Matcher example = EXAMPLE.matcher(readme);
        DUE.due("there is an example (1) or not (0),", example.find() ? 1 : 0, 1);
        String[] lines = example.group(1).split("\n");
        DUE.due("the example begins with a new object (1) or not (0),",
                lines[0].equals("StatementTables t = new StatementTables();") ? 1 : 0, 1);
        StatementTables t = new StatementTables();
        for (String line : Arrays.copyOfRange(lines, 1, lines.length)) {
            if (!line.isEmpty()) {
                exampleLine(t, line);
            }
        }
    }

    private void exampleLine(StatementTables t, String line) throws ReflectiveOperationException {
        Matcher call = CALL.matcher(line);
        if (!call.matches()) {
            DUE.due("a call with its answer (1) or not (0): " + line, 0, 1);
            return;
        }
        Object[] arguments = Stream.of(call.group(2).split(", ")).filter(x -> !x.isEmpty())
                .map(Integer::valueOf).toArray();
        Object answer = methods.get(call.group(1)).invoke(t, arguments);
        String want = call.group(3);
        DUE.due(line, (Integer) answer,
                codes.containsKey(want) ? codes.get(want) : Integer.parseInt(want));
    }

    private void namesCallsAndCodes() {
        for (String name : methods.keySet()) {
            named("| `" + name + "(");
        }
        for (String name : codes.keySet()) {
            named("| `" + name + "` |");
        }
    }

    private void namesTests() throws IOException {
        try (Stream<Path> files = Files.list(Path.of("src/test/java"))) {
            files.map(file -> file.getFileName().toString()).filter(f -> f.endsWith("Test.java"))
                    .forEach(f -> named("| " + f.replace(".java", "") + " |"));
        }
    }

    private void named(String text) {
        DUE.due("README.md has (1) or has not (0) " + text, readme.contains(text) ? 1 : 0, 1);
    }
}
