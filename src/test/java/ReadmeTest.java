import java.io.IOException;
import java.lang.reflect.Method;
import java.nio.file.Files;
import java.nio.file.Path;
import java.util.ArrayList;
import java.util.Arrays;
import java.util.List;
import java.util.regex.Matcher;
import java.util.regex.Pattern;
import java.util.stream.Stream;

/** README.md: its calls, made one behind the other, answer what it says; it names every call and every test. */
public final class ReadmeTest {
    private static final Pattern CALL = Pattern.compile("(?m)^lid\\.(\\w+)\\((.*)\\); +// (-?\\w+):.*$");

    public static void main(String[] args) throws IOException, ReflectiveOperationException {
        String page = Files.readString(Path.of("README.md"));
        int begin = page.indexOf("```java");
        int end = page.indexOf("```", begin + 1);
        Check.due("README.md has an example", begin >= 0 && end > begin, true);
        if (begin >= 0 && end > begin) {
            example(page.substring(begin, end));
        }
        for (Method method : TightLid.class.getMethods()) {
            if (method.getDeclaringClass() == TightLid.class) {
                Check.due("README.md names " + method.getName(), page.contains("`" + method.getName() + "`"), true);
            }
        }
        tests(page);
        Check.end();
    }

    private static void example(String lines) throws ReflectiveOperationException {
        TightLid lid = new TightLid();
        Matcher call = CALL.matcher(lines);
        int made = 0;
        while (call.find()) {
            Check.same(call.group(), answer(lid, call.group(1), call.group(2)), call.group(3));
            made++;
        }
        Check.due("every call of the example is made", made, lines.lines().filter(line -> line.startsWith("lid.")).count());
    }

    private static String answer(TightLid lid, String name, String written) throws ReflectiveOperationException {
        Method method = Arrays.stream(TightLid.class.getMethods()).filter(m -> m.getName().equals(name)).findFirst()
                .orElseThrow();
        Class<?>[] types = method.getParameterTypes();
        List<Object> values = new ArrayList<>();
        for (String value : written.isEmpty() ? new String[0] : written.split(", ")) {
            if (types[values.size()] == boolean.class) {
                values.add(Boolean.parseBoolean(value));
            } else {
                values.add(value.equals("TightLid.NONE") ? TightLid.NONE : Integer.decode(value));
            }
        }
        return String.valueOf(method.invoke(lid, values.toArray()));
    }

    private static void tests(String page) throws IOException {
        try (Stream<Path> files = Files.list(Path.of("src/test/java"))) {
            files.map(file -> file.getFileName().toString()).filter(name -> name.endsWith("Test.java")).forEach(name ->
                    Check.due("README.md tells of " + name, page.contains("| " + name.replace(".java", "") + " |"), true));
        }
    }
}
