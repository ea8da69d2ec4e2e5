import java.io.IOException;
import java.lang.reflect.Method;
import java.nio.file.Files;
import java.nio.file.Path;
import java.util.regex.Matcher;
import java.util.regex.Pattern;

/** The examples in README.md answer what stands behind each of their calls. */
public final class ReadmeTest {
    private static final String NEW_YARD = "MailYard yard = new MailYard();";
    private static final Pattern CALL =
            Pattern.compile("yard\\.(\\w+)\\(([-\\d, ]*)\\); +// (true|false|-?\\d+): .*");

    private ReadmeTest() {
    }

    public static void main(String[] args) throws IOException, ReflectiveOperationException {
        boolean isExample = false;
        MailYard yard = null;
        int calls = 0;
        for (String line : Files.readAllLines(Path.of("README.md"))) {
            if (line.startsWith("```")) {
                isExample = line.equals("```java");
            } else if (line.equals(NEW_YARD)) {
                yard = new MailYard();
            } else if (isExample) {
                Check.due(line, answer(yard, line) + "\n", dueAnswer(line) + "\n");
                calls++;
            }
        }
        Check.due("there are examples", calls > 0, true);
        Check.finish();
    }

    private static String dueAnswer(String line) {
        Matcher call = CALL.matcher(line);
        return call.matches() ? call.group(3) : "a call of yard, with its answer behind it";
    }

    private static String answer(MailYard yard, String line) throws ReflectiveOperationException {
        Matcher call = CALL.matcher(line);
        if (!call.matches()) {
            return "a line that is none";
        }
        for (Method method : MailYard.class.getMethods()) {
            if (method.getName().equals(call.group(1))) {
                return String.valueOf(method.invoke(yard, numbers(call.group(2))));
            }
        }
        return "no such method";
    }

    private static Object[] numbers(String text) {
        if (text.isEmpty()) {
            return new Object[0];
        }
        String[] parts = text.split(", ");
        Object[] numbers = new Object[parts.length];
        for (int i = 0; i < parts.length; i++) {
            numbers[i] = Integer.valueOf(parts[i]);
        }
        return numbers;
    }
}
