import java.io.IOException;
import java.lang.reflect.Method;
import java.lang.reflect.Modifier;
import java.nio.file.Files;
import java.nio.file.Path;
import java.util.Arrays;
import java.util.regex.Matcher;
import java.util.regex.Pattern;

/** README.md tells what is so: its example answers as it says, and its table names every call. Run from the project's folder. */
public final class ReadmeTest {
    private static final Due T = new Due("ReadmeTest");
    private static final Pattern EXAMPLE = Pattern.compile("(?s)```java\n(.*?)```");
    private static final Pattern TEXT = Pattern.compile("\"([^\"]*)\"\\.toCharArray\\(\\)");
    private static final Pattern ANSWER = Pattern.compile("x\\.(\\w+)\\(([-0-9, ]*)\\); +// (-?\\d+)");

    public static void main(String[] args) throws IOException, ReflectiveOperationException {
        String page = Files.readString(Path.of("README.md"));
        example(page);
        calls(page);
        itemsAtFirst(page);
        tests(page);
        T.end();
    }

    private static String found(Pattern pattern, String text) {
        Matcher m = pattern.matcher(text);
        if (!m.find()) {
            throw new IllegalStateException("README.md has no " + pattern);
        }
        return m.group(1);
    }

    private static void example(String page) throws ReflectiveOperationException {
        String code = found(EXAMPLE, page);
        DotThresholds x = new DotThresholds();
        Due.types(x, found(TEXT, code));
        Matcher m = ANSWER.matcher(code);
        int answers = 0;
        while (m.find()) {
            T.due(m.group(), called(x, m.group(1), m.group(2)), Integer.parseInt(m.group(3)));
            answers++;
        }
        long told = code.lines().filter(line -> line.startsWith("x.")).count();
        T.due("each line of the example tells its answer", answers, told);
    }

    private static int called(DotThresholds x, String name, String numbers) throws ReflectiveOperationException {
        Object[] values = numbers.isEmpty() ? new Object[0]
            : Arrays.stream(numbers.split(", *")).map(Integer::valueOf).toArray();
        Class<?>[] types = new Class<?>[values.length];
        Arrays.fill(types, int.class);
        return (Integer) DotThresholds.class.getMethod(name, types).invoke(x, values);
    }

    private static void calls(String page) {
        String table = page.substring(page.indexOf("The calls:"), page.indexOf("Calls never throw"));
        for (Method method : DotThresholds.class.getDeclaredMethods()) {
            if (Modifier.isPublic(method.getModifiers())) {
                T.due("the call " + method.getName() + " is told", table.contains("`" + method.getName() + "`") ? 1 : 0, 1);
            }
        }
    }

    private static void itemsAtFirst(String page) {
        DotThresholds x = new DotThresholds();
        T.due("g at first", page.contains("| " + x.count(0) + " " + x.count(1) + " |\n| `k") ? 1 : 0, 1);
        T.due("k at first", page.contains("| " + x.count(4) + " " + x.count(5) + " " + x.count(6) + " |\n| `a") ? 1 : 0, 1);
        T.due("a at first", page.contains("| " + x.count(7) + " " + x.count(8) + " |\n| `s") ? 1 : 0, 1);
    }

    private static void tests(String page) throws IOException {
        try (var files = Files.list(Path.of("src/test/java"))) {
            for (String name : files.map(file -> file.getFileName().toString()).filter(n -> n.endsWith("Test.java")).toList()) {
                T.due(name + " is told", page.contains(name.replace(".java", "")) ? 1 : 0, 1);
            }
        }
    }
}
