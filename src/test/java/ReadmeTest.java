import java.lang.reflect.InvocationTargetException;
import java.lang.reflect.Method;
import java.nio.file.Files;
import java.nio.file.Path;
import java.util.regex.Matcher;
import java.util.regex.Pattern;

/** The examples of README.md: every call answers what the comment behind it begins with. */
public final class ReadmeTest {
    private static final String FRESH = "VersionMaps maps = new VersionMaps();";
    private static final Pattern CALL = Pattern.compile("maps\\.(\\w+)\\(([-\\d, ]*)\\); +// (-?\\d+|[A-Z]+)(: .*)?");

    private ReadmeTest() {
    }

    public static void main(String[] args) throws Exception {
        boolean inside = false;
        VersionMaps maps = null;
        for (String line : Files.readAllLines(Path.of("README.md"))) {
            if (line.startsWith("```")) {
                inside = line.equals("```java");
                maps = null;
            } else if (inside && line.equals(FRESH)) {
                maps = new VersionMaps();
            } else if (inside) {
                check(maps, line);
            }
        }
        Check.finish();
    }

    private static void check(VersionMaps maps, String line) throws Exception {
        Matcher call = CALL.matcher(line);
        if (maps == null || !call.matches()) {
            Check.due(0, "README.md: no call with an answer: " + line, 0, 1);
            return;
        }
        Check.due(0, "README.md: " + line, answer(maps, call.group(1), call.group(2)), due(call.group(3)));
    }

    private static long answer(VersionMaps maps, String name, String numbers)
            throws IllegalAccessException, InvocationTargetException, NoSuchMethodException {
        String[] texts = numbers.isEmpty() ? new String[0] : numbers.split(", ");
        Class<?>[] types = new Class<?>[texts.length];
        Object[] values = new Object[texts.length];
        for (int i = 0; i < texts.length; i++) {
            types[i] = int.class;
            values[i] = Integer.valueOf(texts[i]);
        }
        Method method = VersionMaps.class.getMethod(name, types);
        return ((Number) method.invoke(maps, values)).longValue();
    }

    private static long due(String text) throws IllegalAccessException, NoSuchFieldException {
        if (Character.isUpperCase(text.charAt(0))) {
            return ((Number) VersionMaps.class.getField(text).get(null)).longValue();
        }
        return Long.parseLong(text);
    }
}
