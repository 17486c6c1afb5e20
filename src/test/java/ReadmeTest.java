import java.io.IOException;
import java.lang.reflect.Method;
import java.lang.reflect.Modifier;
import java.nio.file.Files;
import java.nio.file.Path;
import java.util.regex.Matcher;
import java.util.regex.Pattern;

/** README.md's example answers what stands behind its calls, and the page names every call. */
final class ReadmeTest {
    private static final Pattern CALL = Pattern.compile("hills\\.(\\w+)\\(([-\\d, ]*)\\);\\s*// (-?\\d+):.*");
    private static final Pattern TEXT = Pattern.compile("for \\(char c : \"([^\"]*)\"\\.toCharArray\\(\\)\\) \\{");

    private static final Due due = new Due();

    public static void main(String[] args) throws IOException, ReflectiveOperationException {
        String page = Files.readString(Path.of("README.md"));
        example(page.substring(page.indexOf("```java"), page.indexOf("Every call answers")));
        everyCallIsNamed(page);
        due.end();
    }

    private static void example(String block) throws ReflectiveOperationException {
        HillStrokes hills = new HillStrokes();
        int calls = 0;
        for (String line : block.split("\n")) {
            Matcher text = TEXT.matcher(line);
            Matcher call = CALL.matcher(line);
            if (text.matches()) {
                Due.write(hills, text.group(1));
            } else if (call.matches()) {
                calls++;
                due.is(line.substring(0, line.indexOf(';')), answer(hills, call.group(1), call.group(2)),
                    Integer.parseInt(call.group(3)));
            } else {
                due.holds("a call without its answer: " + line, !line.startsWith("hills."));
            }
        }
        due.holds("calls in the example: " + calls, calls > 10);
    }

    private static int answer(HillStrokes hills, String name, String numbers) throws ReflectiveOperationException {
        String[] told = numbers.isBlank() ? new String[0] : numbers.split(", ");
        Class<?>[] types = new Class<?>[told.length];
        Object[] values = new Object[told.length];
        for (int i = 0; i < told.length; i++) {
            types[i] = int.class;
            values[i] = Integer.parseInt(told[i]);
        }
        return (int) HillStrokes.class.getMethod(name, types).invoke(hills, values);
    }

    private static void everyCallIsNamed(String page) {
        for (Method method : HillStrokes.class.getDeclaredMethods()) {
            if (Modifier.isPublic(method.getModifiers())) {
                due.holds("README.md does not name " + method.getName(), page.contains("`" + method.getName() + "("));
            }
        }
    }
}
