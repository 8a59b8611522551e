import java.io.IOException;
import java.lang.reflect.InvocationTargetException;
import java.lang.reflect.Method;
import java.lang.reflect.Modifier;
import java.nio.file.DirectoryStream;
import java.nio.file.Files;
import java.nio.file.Path;
import java.util.ArrayList;
import java.util.List;
import java.util.regex.Matcher;
import java.util.regex.Pattern;

/** README.md holds: its example answers as it tells, and it names every call and every test. */
public final class ReadmeTest {
    private static final Path README = Path.of("README.md");
    private static final Path TESTS = Path.of("src/test/java");
    private static final Pattern CALL = Pattern.compile("x\\.(\\w+)\\((.*)\\); +// (\\S+): .*");
    private static final String NEW_OBJECT = "TwoCars x = new TwoCars();";
    private static final Check c = new Check();

    public static void main(String[] args) throws IOException, ReflectiveOperationException {
        List<String> lines = Files.readAllLines(README);
        example(lines);
        String text = String.join("\n", lines);
        everyCall(text);
        everyTest(text);
        c.end();
    }

    private static void example(List<String> lines) throws ReflectiveOperationException {
        c.part("README.md, the example");
        int first = lines.indexOf("```java") + 1;
        int behind = first + lines.subList(first, lines.size()).indexOf("```");
        c.yes("it makes an object", lines.get(first).startsWith(NEW_OBJECT));
        TwoCars x = new TwoCars();
        for (String line : lines.subList(first + 1, behind)) {
            Matcher call = CALL.matcher(line);
            if (call.matches()) {
                c.due(line, answer(x, call.group(1), call.group(2)), told(call.group(3)));
            } else {
                c.yes("a line that tells no answer: " + line, line.isEmpty());
            }
        }
    }

    private static long answer(TwoCars x, String name, String written) throws ReflectiveOperationException {
        List<Object> values = new ArrayList<>();
        for (String value : written.isEmpty() ? new String[0] : written.split(", ")) {
            values.add(argument(value));
        }
        for (Method method : TwoCars.class.getMethods()) {
            if (method.getName().equals(name)) {
                Object got = invoke(x, method, values);
                return got instanceof Boolean is ? (is ? 1 : 0) : (Integer) got;
            }
        }
        throw new IllegalStateException("README.md calls " + name);
    }

    private static Object argument(String value) {
        if (value.equals("true") || value.equals("false")) {
            return Boolean.valueOf(value);
        }
        return Integer.valueOf(value);
    }

    private static Object invoke(TwoCars x, Method method, List<Object> values) throws ReflectiveOperationException {
        try {
            return method.invoke(x, values.toArray());
        } catch (InvocationTargetException e) {
            throw new IllegalStateException("README.md calls what throws", e.getCause());
        }
    }

    private static long told(String answer) {
        return switch (answer) {
            case "true" -> 1;
            case "false" -> 0;
            case "NONE" -> TwoCars.NONE;
            default -> Long.parseLong(answer);
        };
    }

    private static void everyCall(String text) {
        c.part("README.md, the calls");
        for (Method method : TwoCars.class.getDeclaredMethods()) {
            if (Modifier.isPublic(method.getModifiers())) {
                c.yes(method.getName(), text.contains("| `" + method.getName() + "("));
            }
        }
    }

    private static void everyTest(String text) throws IOException {
        c.part("README.md, the tests");
        try (DirectoryStream<Path> files = Files.newDirectoryStream(TESTS, "*Test.java")) {
            for (Path file : files) {
                String name = file.getFileName().toString().replace(".java", "");
                c.yes(name, text.contains("| `" + name + "` |"));
            }
        }
    }
}
