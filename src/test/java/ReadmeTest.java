import java.io.IOException;
import java.lang.reflect.Method;
import java.lang.reflect.Modifier;
import java.nio.file.DirectoryStream;
import java.nio.file.Files;
import java.nio.file.Path;
import java.util.Arrays;
import java.util.regex.Matcher;
import java.util.regex.Pattern;

/** README.md's example answers what it says, and it names every call and every test. Run from the project's root. */
public final class ReadmeTest {
    private static final Path TESTS = Path.of("src/test/java");
    private static final Pattern EXAMPLE_CALL = Pattern.compile("x\\.(\\w+)\\(([-0-9, ]*)\\);.* answers (-?[0-9]+).*");
    private static final Pattern ROW = Pattern.compile("\\| `(\\w+)\\(([a-z, ]*)\\)` \\|.*");

    private static final Checks checks = new Checks();

    private static String[] arguments(String text) {
        return text.isEmpty() ? new String[0] : text.split(", ");
    }

    private static Method method(String name, int parameters) throws ReflectiveOperationException {
        Class<?>[] types = new Class<?>[parameters];
        Arrays.fill(types, int.class);
        return LoopPipeliner.class.getMethod(name, types);
    }

    private static void example(String readme) throws ReflectiveOperationException {
        LoopPipeliner x = new LoopPipeliner();
        int calls = 0;
        for (String line : readme.split("\n")) {
            Matcher call = EXAMPLE_CALL.matcher(line);
            if (call.matches()) {
                Object[] numbers = Arrays.stream(arguments(call.group(2))).map(Integer::valueOf).toArray();
                int answer = (int) method(call.group(1), numbers.length).invoke(x, numbers);
                checks.due(line, answer, Integer.parseInt(call.group(3)));
                calls++;
            }
            checks.holds("its answer is told: " + line, !line.startsWith("x.") || call.matches());
        }
        checks.holds("there is an example", calls > 0);
    }

    private static void everyCall(String readme) throws ReflectiveOperationException {
        int rows = 0;
        for (String line : readme.split("\n")) {
            Matcher row = ROW.matcher(line);
            if (row.matches()) {
                method(row.group(1), arguments(row.group(2)).length);
                rows++;
            }
        }
        for (Method method : LoopPipeliner.class.getDeclaredMethods()) {
            boolean open = Modifier.isPublic(method.getModifiers());
            checks.holds("it tells of " + method.getName(), !open || readme.contains("| `" + method.getName() + "("));
            rows -= open ? 1 : 0;
        }
        checks.due("rows beyond the calls there are", rows, 0);
    }

    private static void everyTest(String readme) throws IOException {
        try (DirectoryStream<Path> tests = Files.newDirectoryStream(TESTS, "*Test.java")) {
            for (Path test : tests) {
                String name = test.getFileName().toString().replace(".java", "");
                checks.holds("it tells of " + name, readme.contains("`" + name + "`"));
            }
        }
        Matcher named = Pattern.compile("`(\\w+Test)`").matcher(readme);
        while (named.find()) {
            checks.holds(named.group(1) + " is there", Files.exists(TESTS.resolve(named.group(1) + ".java")));
        }
        checks.holds("it tells how to run them", readme.contains("\n.ci/run\n"));
    }

    public static void main(String[] args) throws IOException, ReflectiveOperationException {
        String readme = Files.readString(Path.of("README.md"));
        example(readme);
        everyCall(readme);
        everyTest(readme);
        checks.end("ReadmeTest");
    }
}
