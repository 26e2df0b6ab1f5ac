import java.io.IOException;
import java.lang.reflect.Method;
import java.lang.reflect.Modifier;
import java.nio.file.Files;
import java.nio.file.Path;
import java.util.Arrays;
import java.util.Set;
import java.util.TreeSet;
import java.util.regex.Matcher;
import java.util.regex.Pattern;

/** The example of README.md: each of its calls, and a call of every public method. */
public final class ReadmeTest {
    private static final Pattern CALL = Pattern.compile("suite\\.(\\w+)\\((.*)\\); *// (-?\\d+|true|false).*");

    private ReadmeTest() {
    }

    public static void main(String[] args) throws IOException, ReflectiveOperationException {
        HullSuite suite = new HullSuite();
        Set<String> shown = new TreeSet<>();
        for (String line : Files.readAllLines(Path.of("README.md"))) {
            if (line.startsWith("suite.")) {
                shown.add(check(suite, line));
            }
        }
        for (Method method : HullSuite.class.getDeclaredMethods()) {
            if (Modifier.isPublic(method.getModifiers())) {
                Due.is("the example shows " + method.getName(), shown.contains(method.getName()), true);
            }
        }
        Due.finish();
    }

    /** Answers the name of the method that the line calls. */
    private static String check(HullSuite suite, String line) throws ReflectiveOperationException {
        Matcher call = CALL.matcher(line);
        Due.is("a call with its answer: " + line, call.matches(), true);
        String name = call.group(1);
        Object[] numbers = Arrays.stream(call.group(2).split(",")).filter(text -> !text.isBlank())
            .map(ReadmeTest::number).toArray();
        Class<?>[] types = new Class<?>[numbers.length];
        Arrays.fill(types, int.class);
        Object answer = HullSuite.class.getMethod(name, types).invoke(suite, numbers);
        Due.is(line + " answered " + answer, answer.toString().equals(call.group(3)), true);
        return name;
    }

    /** A number, or a place written x + 64 * y. */
    private static Integer number(String text) {
        String[] parts = text.split("\\+ 64 \\*");
        int x = Integer.parseInt(parts[0].trim());
        return parts.length == 1 ? x : Due.at(x, Integer.parseInt(parts[1].trim()));
    }
}
