import java.io.IOException;
import java.lang.reflect.Method;
import java.lang.reflect.Modifier;
import java.nio.file.Files;
import java.nio.file.Path;
import java.util.ArrayList;
import java.util.List;
import java.util.regex.Matcher;
import java.util.regex.Pattern;
import java.util.stream.Stream;

/** README.md: its examples answer as they say, and it tells every call, constant and test. */
public final class ReadmeTest extends Checks {
    private static final Path README = Path.of("README.md");
    private static final Path TESTS = Path.of("src/test/java");
    private static final Pattern CALL =
        Pattern.compile("rings\\.(\\w+)\\(([^()]*)\\);\\s*//\\s*(-?\\d+)(?:[:,\\s].*)?");
    private static final Pattern TYPED = Pattern.compile("for \\(char c : \"([^\"]*)\"\\.toCharArray\\(\\)\\) \\{");

    public static void main(String[] args) throws Exception {
        runAll(ReadmeTest.class);
    }

    static void examplesAnswerAsTold() throws Exception {
        RankRings rings = new RankRings();
        int objects = 0;
        List<String> called = new ArrayList<>();
        for (String line : javaLines()) {
            Matcher call = CALL.matcher(line);
            Matcher typed = TYPED.matcher(line);
            if (line.equals("RankRings rings = new RankRings();")) {
                rings = new RankRings();
                objects++;
            } else if (typed.matches()) {
                type(rings, typed.group(1));
            } else if (call.matches()) {
                due(line, answer(rings, call.group(1), call.group(2)), Integer.parseInt(call.group(3)));
                called.add(call.group(1));
            } else {
                due("a line that is known: " + line, line.equals("rings.type(c);") || line.equals("}") ? 1 : 0, 1);
            }
        }
        due("examples", objects, 3);
        for (Method method : publicMethods()) {
            due("an example of " + method.getName(), called.contains(method.getName()) ? 1 : 0, 1);
        }
    }

    static void everyCallIsToldInTheTable() throws IOException {
        String readme = Files.readString(README);
        for (Method method : publicMethods()) {
            String row = "\\| `" + method.getName() + "\\(" + arguments(method) + "\\)` *\\|";
            due("a row for " + method.getName(), Pattern.compile(row).matcher(readme).find() ? 1 : 0, 1);
        }
    }

    static void everyErrorIsToldInTheTable() throws IOException {
        String readme = Files.readString(README);
        List<String> names = List.of("INVALID_ARGUMENT", "NOT_POSSIBLE", "LIMIT_REACHED", "NOT_FOUND");
        for (int i = 0; i < names.size(); i++) {
            String row = "\\| " + (-1 - i) + " +\\| `" + names.get(i) + "` +\\|";
            due("a row for " + names.get(i), Pattern.compile(row).matcher(readme).find() ? 1 : 0, 1);
        }
    }

    static void everyTestIsTold() throws IOException {
        String readme = Files.readString(README);
        due("the script is told", readme.contains("\n.ci/run\n") ? 1 : 0, 1);
        try (Stream<Path> files = Files.list(TESTS)) {
            for (Path file : (Iterable<Path>) files.sorted()::iterator) {
                String name = file.getFileName().toString().replace(".java", "");
                due(name + " is told", readme.contains(name) ? 1 : 0, 1);
            }
        }
    }

    /** The lines of all examples in Java, without what stands ahead of and behind them. */
    private static List<String> javaLines() throws IOException {
        List<String> lines = new ArrayList<>();
        boolean inExample = false;
        for (String line : Files.readAllLines(README)) {
            if (line.startsWith("```")) {
                inExample = line.equals("```java");
            } else if (inExample && !line.isBlank()) {
                lines.add(line.strip());
            }
        }
        return lines;
    }

    private static List<Method> publicMethods() {
        List<Method> methods = new ArrayList<>();
        for (Method method : RankRings.class.getDeclaredMethods()) {
            if (Modifier.isPublic(method.getModifiers())) {
                methods.add(method);
            }
        }
        return methods;
    }

    /** A pattern for as many names as the method has parameters. */
    private static String arguments(Method method) {
        return String.join(", ", java.util.Collections.nCopies(method.getParameterCount(), "\\w+"));
    }

    private static int answer(RankRings rings, String name, String arguments) throws Exception {
        String[] given = arguments.isBlank() ? new String[0] : arguments.split(", ");
        Class<?>[] types = new Class<?>[given.length];
        Object[] values = new Object[given.length];
        for (int i = 0; i < given.length; i++) {
            types[i] = int.class;
            values[i] = given[i].startsWith("'") ? (int) given[i].charAt(1) : Integer.parseInt(given[i]);
        }
        return (int) RankRings.class.getMethod(name, types).invoke(rings, values);
    }
}
