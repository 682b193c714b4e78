import java.io.IOException;
import java.lang.reflect.Method;
import java.lang.reflect.Modifier;
import java.nio.file.Files;
import java.nio.file.Path;
import java.util.regex.Matcher;
import java.util.regex.Pattern;

/** What README.md says of the class is so: the calls of its example, and that it names each call of the face. */
public final class ReadmeTest {
    private static final Pattern CALL = Pattern.compile("x\\.(\\w+)\\(([^)]*)\\);\\s*// (-?\\d+).*");
    private static final int EXAMPLE_CALLS = 17;

    public static void main(String[] args) throws IOException {
        Check check = new Check();
        String readme = Files.readString(Path.of("README.md"));
        lookAtExample(check, readme);
        for (Method method : DreamMatins.class.getDeclaredMethods()) {
            if (Modifier.isPublic(method.getModifiers())) {
                check.holds("README.md names " + method.getName(), readme.contains("`" + method.getName() + "`"));
            }
        }
        check.end();
    }

    private static void lookAtExample(Check check, String readme) {
        DreamMatins x = new DreamMatins();
        int calls = 0;
        for (String line : readme.lines().toList()) {
            Matcher call = CALL.matcher(line);
            boolean isCall = call.matches();
            check.holds("a call with its answer: " + line, isCall || !line.startsWith("x."));
            if (isCall) {
                calls++;
                check.due(line, Long.parseLong(call.group(3)), () -> answer(x, call.group(1), call.group(2)));
            }
        }
        int seen = calls;
        check.due("calls of the example", EXAMPLE_CALLS, () -> seen);
    }

    /** All calls of the example take and give numbers alone. */
    private static long answer(DreamMatins x, String name, String told) {
        String[] words = told.isEmpty() ? new String[0] : told.split(", ");
        Class<?>[] types = new Class<?>[words.length];
        Object[] numbers = new Object[words.length];
        for (int i = 0; i < words.length; i++) {
            types[i] = int.class;
            numbers[i] = Integer.decode(words[i]);
        }
        try {
            return (Integer) DreamMatins.class.getMethod(name, types).invoke(x, numbers);
        } catch (ReflectiveOperationException e) {
            throw new IllegalStateException(name, e);
        }
    }
}
