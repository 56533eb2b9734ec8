import java.lang.reflect.Method;
import java.nio.file.Files;
import java.nio.file.Path;
import java.util.regex.Matcher;
import java.util.regex.Pattern;

/** Makes the calls that README.md shows, one after another; each must answer what stands behind it. */
public final class ReadmeTest {
    private static final Pattern SHOWN = Pattern.compile("^x\\.(\\w+)\\((.*)\\);(.*)$");
    private static final Pattern ANSWER = Pattern.compile("^\\s*// (-?\\d+)\\b.*$");

    private static Method method(String name) {
        for (Method m : PostsFilled.class.getDeclaredMethods()) {
            if (m.getName().equals(name)) {
                return m;
            }
        }
        throw new IllegalArgumentException("README.md shows a call that there is not: " + name);
    }

    private static Object[] arguments(Method m, String text) {
        String[] parts = text.isEmpty() ? new String[0] : text.split(", ");
        Object[] arguments = new Object[parts.length];
        for (int i = 0; i < parts.length; i++) {
            long n = Long.decode(parts[i].replace("L", ""));
            if (m.getParameterTypes()[i] == long.class) {
                arguments[i] = n;
            } else {
                arguments[i] = (int) n;
            }
        }
        return arguments;
    }

    public static void main(String[] args) throws Exception {
        Due due = new Due("ReadmeTest");
        PostsFilled x = new PostsFilled();
        for (String line : Files.readAllLines(Path.of("README.md"))) {
            Matcher shown = SHOWN.matcher(line);
            if (!shown.matches()) {
                continue;
            }
            Method m = method(shown.group(1));
            Matcher answer = ANSWER.matcher(shown.group(3));
            due.is(line + " tells its answer", answer.matches() ? 1 : 0, 1);
            long got = ((Number) m.invoke(x, arguments(m, shown.group(2)))).longValue();
            due.is(line, got, answer.matches() ? Long.parseLong(answer.group(1)) : got);
        }
        due.end();
    }
}
