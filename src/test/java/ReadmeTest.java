import java.io.IOException;
import java.lang.reflect.InvocationTargetException;
import java.lang.reflect.Method;
import java.lang.reflect.Modifier;
import java.nio.file.Files;
import java.nio.file.Path;
import java.util.regex.Matcher;
import java.util.regex.Pattern;

/** README.md: its examples answer what stands behind them, and each method of the face has its row. */
public final class ReadmeTest {
    private static final Pattern EXAMPLE = Pattern.compile("map\\.(\\w+)\\((.*?)\\);\\s*// (-?\\d+|true|false)\\b.*");

    private final Checks checks = new Checks();
    private TwoChoices map = new TwoChoices();

    public static void main(String[] args) throws IOException, ReflectiveOperationException {
        ReadmeTest test = new ReadmeTest();
        String readme = Files.readString(Path.of("README.md"));
        test.examples(readme);
        test.rows(readme);
        test.checks.end();
    }

    private void examples(String readme) throws ReflectiveOperationException {
        int seen = 0;
        for (String line : readme.split("\n")) {
            if (line.startsWith("TwoChoices map")) {
                map = new TwoChoices();
            } else if (line.startsWith("map.")) {
                example(line);
                seen++;
            }
        }
        checks.due("there are examples", seen > 0, true);
    }

    private void example(String line) throws ReflectiveOperationException {
        Matcher parts = EXAMPLE.matcher(line);
        boolean told = parts.matches();
        checks.due("an answer stands behind " + line, told, true);
        if (told) {
            String answer = answer(parts.group(1), parts.group(2));
            checks.due(line + " answered " + answer, answer.equals(parts.group(3)), true);
        }
    }

    private String answer(String name, String arguments) throws IllegalAccessException, InvocationTargetException {
        String[] given = arguments.isEmpty() ? new String[0] : arguments.split(", ");
        for (Method method : TwoChoices.class.getDeclaredMethods()) {
            Class<?>[] kinds = method.getParameterTypes();
            if (method.getName().equals(name) && kinds.length == given.length) {
                Object[] values = new Object[given.length];
                for (int k = 0; k < given.length; k++) {
                    values[k] = kinds[k] == boolean.class ? (Object) Boolean.valueOf(given[k]) : Integer.decode(given[k]);
                }
                return String.valueOf(method.invoke(map, values));
            }
        }
        return "nothing: there is no such method";
    }

    private void rows(String readme) {
        for (Method method : TwoChoices.class.getDeclaredMethods()) {
            if (Modifier.isPublic(method.getModifiers())) {
                String parameters = "[^,)]*" + ", [^,)]*".repeat(Math.max(0, method.getParameterCount() - 1));
                String row = "(?m)^\\| `" + method.getName() + "\\(" + parameters + "\\)` \\|";
                checks.due("a row for " + method.getName(), Pattern.compile(row).matcher(readme).find(), true);
            }
        }
    }
}
