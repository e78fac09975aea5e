import java.io.IOException;
import java.lang.reflect.InvocationTargetException;
import java.lang.reflect.Method;
import java.lang.reflect.Modifier;
import java.nio.file.Files;
import java.nio.file.Path;
import java.util.Arrays;
import java.util.List;
import java.util.Map;
import java.util.Set;
import java.util.TreeMap;
import java.util.TreeSet;
import java.util.regex.Matcher;
import java.util.regex.Pattern;
import java.util.stream.Collectors;
import java.util.stream.Stream;

/** README.md: the run of calls in it is answered so, and the tests that it names are those that there are. */
final class ReadmeTest {
    private static final String NEW_SERVER = "EpochServer server = new EpochServer();";
    private static final Pattern JAVA = Pattern.compile("(?ms)^```java$(.*?)^```$");
    private static final Pattern ROW = Pattern.compile("server\\.(\\w+)\\(([^()]*)\\); *// (-?\\d+)(: .+)?");
    private static final Pattern TEST_NAME = Pattern.compile("`([A-Z]\\w*\\*?Test)`");
    private static final Path TESTS = Path.of("src/test/java");

    private final Set<String> called = new TreeSet<>();
    private EpochServer server = null;
    private int calls = 0;

    public static void main(String[] args) throws IOException, ReflectiveOperationException {
        String readme = Files.readString(Path.of("README.md"));
        new ReadmeTest().holdRuns(readme);
        testsAreNamed(readme);
        Bench.end();
    }

    private void holdRuns(String readme) throws ReflectiveOperationException {
        Matcher block = JAVA.matcher(readme);
        while (block.find()) {
            server = null;
            for (String line : block.group(1).split("\n")) {
                holdLine(line.strip());
            }
        }
        Bench.due("README.md's run uses " + called + " of " + face().keySet(), 1, called.equals(face().keySet()) ? 1 : 0);
        Bench.due("README.md's run keeps to 512 calls", 1, calls <= 512 ? 1 : 0);
    }

    private void holdLine(String line) throws ReflectiveOperationException {
        if (line.isEmpty() || line.startsWith("//")) {
            return;
        }
        if (line.equals(NEW_SERVER)) {
            server = new EpochServer();
            return;
        }
        Matcher row = ROW.matcher(line);
        boolean readable = server != null && row.matches() && face().containsKey(row.group(1));
        Bench.due("README.md has a call that can be held against the class: " + line, 1, readable ? 1 : 0);
        if (readable) {
            Bench.due("README.md: " + line, Integer.parseInt(row.group(3)), call(row.group(1), row.group(2)));
        }
    }

    private int call(String name, String arguments) throws ReflectiveOperationException {
        called.add(name);
        calls++;
        Object[] numbers = Arrays.stream(arguments.split(", *")).filter(one -> !one.isEmpty()).map(ReadmeTest::number).toArray();
        try {
            return (int) face().get(name).invoke(server, numbers);
        } catch (InvocationTargetException e) {
            throw new IllegalStateException(name + "(" + arguments + ") threw", e.getCause());
        }
    }

    /** As Java reads it: 0xffffffff is -1. */
    private static Integer number(String text) {
        return text.startsWith("0x") ? Integer.parseUnsignedInt(text.substring(2), 16) : Integer.parseInt(text);
    }

    private static Map<String, Method> face() {
        return Arrays.stream(EpochServer.class.getDeclaredMethods())
                .filter(method -> Modifier.isPublic(method.getModifiers()))
                .collect(Collectors.toMap(Method::getName, method -> method, (a, b) -> a, TreeMap::new));
    }

    private static void testsAreNamed(String readme) throws IOException {
        Bench.due("README.md says that .ci/run runs the tests", 1, readme.contains("\n    .ci/run\n") ? 1 : 0);
        Bench.due(".ci/run can be run", 1, Files.isExecutable(Path.of(".ci/run")) ? 1 : 0);
        List<String> named = TEST_NAME.matcher(readme).results().map(found -> found.group(1)).toList();
        try (Stream<Path> files = Files.list(TESTS)) {
            List<String> there = files.map(file -> file.getFileName().toString().replaceAll("\\.java$", ""))
                    .filter(name -> name.endsWith("Test")).toList();
            for (String test : there) {
                Bench.due("README.md names " + test, 1, named.stream().anyMatch(name -> covers(name, test)) ? 1 : 0);
            }
            for (String name : named) {
                Bench.due(name + ", which README.md names, is there", 1, there.stream().anyMatch(test -> covers(name, test)) ? 1 : 0);
            }
        }
    }

    private static boolean covers(String name, String test) {
        return test.matches(name.replace("*", "\\w*"));
    }
}
