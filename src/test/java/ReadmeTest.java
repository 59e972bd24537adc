import java.io.IOException;
import java.lang.reflect.Method;
import java.nio.charset.StandardCharsets;
import java.nio.file.Files;
import java.nio.file.Path;
import java.util.regex.Matcher;
import java.util.regex.Pattern;

/** The example in README.md, line by line: each call answers the number that stands behind it. */
public final class ReadmeTest {
    private static final Pattern CALL = Pattern.compile("straw\\.(\\w+)\\(([^)]*)\\); +// (-?\\d+): .+");
    private static final Pattern FEED =
        Pattern.compile("for \\(char sign : \"([^\"]+)\"\\.toCharArray\\(\\)\\) straw\\.feed\\(sign\\);");

    public static void main(String[] args) throws IOException, ReflectiveOperationException {
        String readme = Files.readString(Path.of("README.md"), StandardCharsets.UTF_8);
        Matcher example = Pattern.compile("(?s)```java\n(.*?)```").matcher(readme);
        Check.due("an example", example.find() ? 1 : 0, 1);
        ShortStraw straw = null;
        for (String line : example.group(1).split("\n")) {
            Matcher feed = FEED.matcher(line);
            if (line.equals("ShortStraw straw = new ShortStraw();")) {
                straw = new ShortStraw();
            } else if (feed.matches()) {
                Check.feed(straw, feed.group(1));
            } else {
                call(straw, line);
            }
        }
        Check.end("ReadmeTest");
    }

    private static void call(ShortStraw straw, String line) throws ReflectiveOperationException {
        Matcher call = CALL.matcher(line);
        if (!call.matches()) {
            Check.due("no call with its answer: " + line, 0, 1);
            return;
        }
        String[] told = call.group(2).isEmpty() ? new String[0] : call.group(2).split(", ");
        Method method = named(call.group(1));
        Object[] values = new Object[told.length];
        for (int i = 0; i < told.length; i++) {
            values[i] = value(method.getParameterTypes()[i], told[i]);
        }
        Check.due(line, ((Number) method.invoke(straw, values)).longValue(), Long.parseLong(call.group(3)));
    }

    private static Method named(String name) throws NoSuchMethodException {
        for (Method method : ShortStraw.class.getDeclaredMethods()) {
            if (method.getName().equals(name)) {
                return method;
            }
        }
        throw new NoSuchMethodException(name);
    }

    /** Of the types that the face has. */
    private static Object value(Class<?> type, String told) {
        if (type == boolean.class) {
            return Boolean.parseBoolean(told);
        }
        if (type == long.class) {
            return Long.parseLong(told);
        }
        return Integer.parseInt(told);
    }
}
