import java.io.IOException;
import java.lang.reflect.Method;
import java.lang.reflect.Modifier;
import java.nio.charset.StandardCharsets;
import java.nio.file.Files;
import java.nio.file.Path;
import java.util.regex.Matcher;
import java.util.regex.Pattern;

/** README.md: its sample answers what is written behind each call, and it names every call. */
public final class ReadmeTest {
    private static final Checks CHECKS = new Checks();
    private static final Pattern CALL = Pattern.compile("^x\\.([a-z]+)\\((.*)\\); *// (-?\\d+): .*$");

    public static void main(String[] args) throws IOException, ReflectiveOperationException {
        String page = Files.readString(Path.of("README.md"), StandardCharsets.UTF_8);
        sample(page);
        for (Method method : HeavenStop.class.getDeclaredMethods()) {
            if (Modifier.isPublic(method.getModifiers())) {
                CHECKS.due("README.md names " + method.getName(), page.contains("`" + method.getName() + "`"), true);
            }
        }
        tests(page);
        CHECKS.end("ReadmeTest");
    }

    private static void sample(String page) throws ReflectiveOperationException {
        HeavenStop x = new HeavenStop();
        int calls = 0;
        for (String line : page.split("\n")) {
            if (line.startsWith("x.")) {
                Matcher matcher = CALL.matcher(line);
                CHECKS.due("'" + line + "' tells its answer", matcher.matches(), true);
                if (matcher.matches()) {
                    long got = answer(x, matcher.group(1), matcher.group(2));
                    CHECKS.due(line, got, Long.parseLong(matcher.group(3)));
                    calls++;
                }
            }
        }
        CHECKS.due("calls in the sample", calls > 0, true);
    }

    /** Every call of the sample takes ints and answers an int. */
    private static long answer(HeavenStop x, String name, String row) throws ReflectiveOperationException {
        String[] told = row.isEmpty() ? new String[0] : row.split(", ");
        Class<?>[] types = new Class<?>[told.length];
        Object[] values = new Object[told.length];
        for (int i = 0; i < told.length; i++) {
            types[i] = int.class;
            values[i] = Integer.decode(told[i]);
        }
        return (Integer) HeavenStop.class.getMethod(name, types).invoke(x, values);
    }

    /** A test that the page names is there, and one that is there is named. */
    private static void tests(String page) throws IOException {
        Path tests = Path.of("src/test/java");
        Matcher named = Pattern.compile("`([A-Z][A-Za-z]*Test)`").matcher(page);
        while (named.find()) {
            CHECKS.due(named.group(1) + " is there", Files.exists(tests.resolve(named.group(1) + ".java")), true);
        }
        try (var files = Files.newDirectoryStream(tests, "*Test.java")) {
            for (Path file : files) {
                String name = file.getFileName().toString().replace(".java", "");
                CHECKS.due("README.md names " + name, page.contains("`" + name + "`"), true);
            }
        }
    }
}
