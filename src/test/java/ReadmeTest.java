import java.lang.reflect.Method;
import java.lang.reflect.Modifier;
import java.nio.file.Files;
import java.nio.file.Path;
import java.util.regex.Matcher;
import java.util.regex.Pattern;

/** README.md's calls answer as it says, and it names each call of the class. */
public final class ReadmeTest {
    private static final Path README = Path.of("README.md");
    private static final Pattern CALL = Pattern.compile("x\\.(\\w+)\\(([^()]*)\\); +// (-?\\d+)(:.*)?");
    private static final Pattern FEED =
        Pattern.compile("for \\(char c : \"([^\"]+)\"\\.toCharArray\\(\\)\\) x\\.feed\\(c\\);");
    private static final String FIRST = "LacePins x = new LacePins();";
    private static final Check check = new Check();

    private static LacePins x = new LacePins();

    public static void main(String[] args) throws Exception {
        String text = Files.readString(README);
        calls(text);
        names(text);
        check.end();
    }

    private static void calls(String text) throws ReflectiveOperationException {
        check.topic("the calls in README.md");
        Matcher blocks = Pattern.compile("(?s)```java\n(.*?)```").matcher(text);
        int lines = 0;
        while (blocks.find()) {
            for (String line : blocks.group(1).split("\n")) {
                lines++;
                runLine(line);
            }
        }
        check.holds("there are lines", lines > 40);
    }

    private static void runLine(String line) throws ReflectiveOperationException {
        Matcher call = CALL.matcher(line), feed = FEED.matcher(line);
        if (call.matches()) {
            check.due(line, answer(call.group(1), call.group(2)), Long.parseLong(call.group(3)));
        } else if (feed.matches()) {
            for (char c : feed.group(1).toCharArray()) x.feed(c);
        } else {
            check.holds("it is a line that can be read: " + line, line.startsWith(FIRST));
            x = new LacePins();
        }
    }

    private static long answer(String name, String listed) throws ReflectiveOperationException {
        String[] parts = listed.isEmpty() ? new String[0] : listed.split(", ");
        for (Method m : LacePins.class.getDeclaredMethods()) {
            if (!m.getName().equals(name) || m.getParameterCount() != parts.length) continue;
            Object[] values = new Object[parts.length];
            for (int i = 0; i < parts.length; i++) values[i] = valueOf(m.getParameterTypes()[i], parts[i]);
            return ((Number) m.invoke(x, values)).longValue();
        }
        check.holds("there is a call " + name + "(" + listed + ")", false);
        return 0;
    }

    private static Object valueOf(Class<?> type, String text) {
        if (type == boolean.class) return Boolean.valueOf(text);
        if (type == long.class) return Long.valueOf(text);
        return Integer.valueOf(text);
    }

    private static void names(String text) {
        check.topic("the calls that README.md names");
        for (Method m : LacePins.class.getDeclaredMethods()) {
            if (!Modifier.isPublic(m.getModifiers())) continue;
            String listed = "\\w+(, \\w+){" + (m.getParameterCount() - 1) + "}";
            String call = "`" + m.getName() + "\\(" + (m.getParameterCount() == 0 ? "" : listed) + "\\)`";
            check.holds(call, Pattern.compile(call).matcher(text).find());
        }
    }
}
