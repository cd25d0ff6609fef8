import java.lang.reflect.Field;
import java.lang.reflect.Method;
import java.lang.reflect.Modifier;
import java.nio.file.Files;
import java.nio.file.Path;
import java.util.regex.Matcher;
import java.util.regex.Pattern;

/** README.md: its example answers what it says, and its table names every call. */
final class ReadmeTest {
    private static final Pattern TOLD = Pattern.compile("String text = \"([^\"]*)\";");
    private static final Pattern CALL = Pattern.compile("x\\.(\\w+)\\(([\\d, ]*)\\);\\s*// (\\d+|[A-Z]+)\\b");

    public static void main(String[] args) throws Exception {
        String readme = Files.readString(Path.of("README.md"));
        example(readme);
        table(readme);
        Check.end();
    }

    private static void example(String readme) throws Exception {
        SnowCourse x = new SnowCourse();
        Matcher told = TOLD.matcher(readme);
        Check.due("a text in README.md", told.find() ? 1 : 0, 1);
        Check.write(x, told.group(1));
        Matcher calls = CALL.matcher(readme);
        int seen = 0;
        while (calls.find()) {
            seen++;
            Check.due("README.md: " + calls.group(), answer(x, calls.group(1), calls.group(2)), due(calls.group(3)));
        }
        int written = readme.split("\\);\\s*// ", -1).length - 1;
        Check.due("calls of the example", seen, written);
        Check.due("calls of the example, 7 at least", Math.min(seen, 7), 7);
    }

    private static long answer(SnowCourse x, String name, String numbers) throws Exception {
        String[] parts = numbers.isEmpty() ? new String[0] : numbers.split(", ");
        Object[] values = new Object[parts.length];
        for (int i = 0; i < parts.length; i++) {
            values[i] = Integer.parseInt(parts[i]);
        }
        for (Method method : SnowCourse.class.getMethods()) {
            if (method.getName().equals(name) && method.getParameterCount() == values.length) {
                return ((Number) method.invoke(x, values)).longValue();
            }
        }
        Check.due("README.md: no such call: " + name, 1, 0);
        return 0;
    }

    private static long due(String word) throws Exception {
        if (Character.isDigit(word.charAt(0))) {
            return Long.parseLong(word);
        }
        Field constant = SnowCourse.class.getField(word);
        return constant.getInt(null);
    }

    private static void table(String readme) {
        for (Method method : SnowCourse.class.getDeclaredMethods()) {
            if (Modifier.isPublic(method.getModifiers())) {
                boolean named = Pattern.compile("(?m)^\\| [^|]*`" + method.getName() + "`[^|]*\\|").matcher(readme).find();
                Check.due("README.md names " + method.getName(), named ? 1 : 0, 1);
            }
        }
    }
}
