import java.io.IOException;
import java.lang.reflect.Method;
import java.nio.file.Files;
import java.nio.file.Path;
import java.util.TreeSet;
import java.util.regex.Matcher;
import java.util.regex.Pattern;

/**
 * Runs the examples of README.md: each call answers what its comment shows, and none of the calls
 * of the class is left without an example.
 */
public final class Readme {
    private static final String NEW = "TrackBox x = new TrackBox();";
    private static final Pattern EXAMPLE = Pattern.compile("(?ms)^```java\n(.*?)^```$");
    private static final Pattern CALL = Pattern.compile("x\\.((\\w+)\\((.*?)\\)); +// (-?\\d+)(: .*)?");

    public static void main(String[] args) throws IOException, ReflectiveOperationException {
        Check.sentence("README.md");
        TreeSet<String> shown = new TreeSet<>();
        Matcher examples = EXAMPLE.matcher(Files.readString(Path.of("README.md")));
        while (examples.find()) {
            run(examples.group(1).split("\n"), shown);
        }
        TreeSet<String> all = new TreeSet<>();
        for (Method method : TrackBox.class.getMethods()) {
            if (method.getDeclaringClass() == TrackBox.class) {
                all.add(method.getName());
            }
        }
        Check.due("the calls shown", shown.toString(), all.toString());
        Check.end("the README shows what the class answers");
    }

    private static void run(String[] lines, TreeSet<String> shown) throws ReflectiveOperationException {
        Check.due("the first line of an example", lines[0], NEW);
        TrackBox x = new TrackBox();
        for (int i = 1; i < lines.length; i++) {
            Matcher line = CALL.matcher(lines[i]);
            if (!line.matches()) {
                Check.due("a line of an example", lines[i], "x.call(..);  // answer");
                continue;
            }
            shown.add(line.group(2));
            Check.due(line.group(1), answer(x, line.group(2), line.group(3)), Integer.parseInt(line.group(4)));
        }
    }

    private static int answer(TrackBox x, String name, String told) throws ReflectiveOperationException {
        String[] words = told.isEmpty() ? new String[0] : told.split(", ");
        Method method = named(name);
        Class<?>[] types = method.getParameterTypes();
        if (types.length != words.length) {
            throw new NoSuchMethodException(name + " of " + words.length);
        }
        Object[] values = new Object[words.length];
        for (int i = 0; i < words.length; i++) {
            values[i] = value(types[i], words[i]);
        }
        return (Integer) method.invoke(x, values);
    }

    private static Method named(String name) throws NoSuchMethodException {
        for (Method method : TrackBox.class.getMethods()) {
            if (method.getName().equals(name)) {
                return method;
            }
        }
        throw new NoSuchMethodException(name);
    }

    private static Object value(Class<?> type, String word) {
        if (type == boolean.class) {
            return Boolean.valueOf(word);
        }
        if (type == long.class) {
            return Long.decode(word.endsWith("L") ? word.substring(0, word.length() - 1) : word);
        }
        return Integer.decode(word);
    }
}
