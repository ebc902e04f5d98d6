import java.io.IOException;
import java.lang.reflect.Method;
import java.nio.charset.StandardCharsets;
import java.nio.file.Files;
import java.nio.file.Path;
import java.util.regex.Matcher;
import java.util.regex.Pattern;

/** The example of README.md answers what is written behind each of its calls. */
public final class ReadmeTests {
    private static final Pattern PINS = Pattern.compile("String\\[] pins = \\{\"(.*)\"};");
    private static final Pattern ROWS = Pattern.compile("String rows = \"(.*)\";");
    private static final Pattern CALL = Pattern.compile("text\\.(\\w+)\\(([-0-9, ]*)\\); +// (-?\\d+)");
    private static final Checks CHECKS = new Checks();

    private ReadmeTests() {
    }

    public static void main(String[] args) throws IOException, ReflectiveOperationException {
        String readme = Files.readString(Path.of("README.md"), StandardCharsets.UTF_8);
        ConstraintText text = Use.withPins(only(readme, PINS).split("\", \""));
        Use.put(text, only(readme, ROWS));
        Matcher calls = CALL.matcher(readme);
        int found = 0;
        while (calls.find()) {
            found++;
            String call = calls.group(1) + "(" + calls.group(2) + ")";
            CHECKS.same(call, answer(text, calls.group(1), calls.group(2)), Long.parseLong(calls.group(3)));
        }
        CHECKS.yes("the example has its calls", found >= 15);
        CHECKS.end("the README's example");
    }

    private static String only(String readme, Pattern wanted) {
        Matcher matcher = wanted.matcher(readme);
        boolean found = matcher.find();
        CHECKS.yes("README.md has " + wanted, found);
        return found ? matcher.group(1) : "";
    }

    private static long answer(ConstraintText text, String name, String list) throws ReflectiveOperationException {
        String[] written = list.isBlank() ? new String[0] : list.split(", ");
        Class<?>[] types = new Class<?>[written.length];
        Object[] values = new Object[written.length];
        for (int i = 0; i < written.length; i++) {
            types[i] = int.class;
            values[i] = Integer.valueOf(written[i]);
        }
        Method method = ConstraintText.class.getMethod(name, types);
        return ((Number) method.invoke(text, values)).longValue();
    }
}
