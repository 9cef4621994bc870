import java.io.IOException;
import java.lang.reflect.InvocationTargetException;
import java.lang.reflect.Method;
import java.nio.file.Files;
import java.nio.file.Path;
import java.util.List;
import java.util.Set;
import java.util.TreeSet;
import java.util.regex.Matcher;
import java.util.regex.Pattern;

/** Makes the calls of the example in README.md, line by line, and looks at the answers that it tells. */
public final class ReadmeTest {
    private static final Pattern CALL = Pattern.compile("x\\.(\\w+)\\(([-0-9, ]*)\\);\\s*(?://(.*))?");
    private static final Pattern ANSWER = Pattern.compile(" answers (-?\\d+)\\b.*");
    private static final String FIRST_LINE = "ExactFilter x = new ExactFilter();";
    private static final int ANSWERING_METHODS = 8;

    public static void main(String[] args) throws IOException, ReflectiveOperationException {
        Checks checks = new Checks();
        List<String> lines = Files.readAllLines(Path.of("README.md"));
        int first = lines.indexOf(FIRST_LINE);
        checks.same("README.md has an example", "true", Boolean.toString(first >= 0));
        ExactFilter x = new ExactFilter();
        Set<String> answering = new TreeSet<>();
        for (int k = first + 1; k < lines.size() && !lines.get(k).startsWith("```"); k++) {
            Matcher call = CALL.matcher(lines.get(k));
            if (!call.matches()) {
                checks.same("line " + (k + 1), "a call", lines.get(k));
                continue;
            }
            Object got = answer(x, call.group(1), call.group(2));
            Matcher told = ANSWER.matcher(call.group(3) == null ? "" : call.group(3));
            checks.same("line " + (k + 1), told.matches() ? told.group(1) : "null", String.valueOf(got));
            if (told.matches()) {
                answering.add(call.group(1));
            }
        }
        checks.same("methods with an answer", Integer.toString(ANSWERING_METHODS), Integer.toString(answering.size()));
        checks.end();
    }

    private static Object answer(ExactFilter x, String name, String arguments) throws ReflectiveOperationException {
        String[] words = arguments.isBlank() ? new String[0] : arguments.split(",");
        Object[] numbers = new Object[words.length];
        for (int k = 0; k < words.length; k++) {
            numbers[k] = Integer.valueOf(words[k].trim());
        }
        for (Method method : ExactFilter.class.getMethods()) {
            if (method.getName().equals(name) && method.getParameterCount() == numbers.length) {
                return invoke(method, x, numbers);
            }
        }
        return "no such method";
    }

    private static Object invoke(Method method, ExactFilter x, Object[] numbers) throws IllegalAccessException {
        try {
            return method.invoke(x, numbers);
        } catch (InvocationTargetException thrown) {
            return thrown.getCause().getClass().getSimpleName();
        }
    }
}
