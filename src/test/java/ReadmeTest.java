import java.io.IOException;
import java.lang.reflect.Method;
import java.nio.file.Files;
import java.nio.file.Path;
import java.util.regex.Matcher;
import java.util.regex.Pattern;

/** The example of README.md: each call answers what stands behind it. */
public final class ReadmeTest {
    private static final Pattern CALL = Pattern.compile("x\\.(\\w+)\\(([^)]*)\\); *// (-?\\d+)\\b.*");

    public static void main(String[] args) throws IOException, ReflectiveOperationException {
        String text = Files.readString(Path.of(System.getProperty("project", "."), "README.md"));
        Matcher block = Pattern.compile("(?s)```java\n(.*?)```").matcher(text);
        Check.holds("an example is there", block.find());
        String[] lines = block.group(1).split("\n");
        Check.holds("it begins with an object", lines[0].equals("StonesAsked x = new StonesAsked();"));
        StonesAsked x = new StonesAsked();
        for (int i = 1; i < lines.length; i++) {
            Matcher call = CALL.matcher(lines[i]);
            Check.holds("a call with its answer: " + lines[i], call.matches());
            Check.due(lines[i], call(x, call.group(1), call.group(2)), Long.parseLong(call.group(3)));
        }
        Check.holds("it is an example of some length", lines.length > 10);
        Check.end();
    }

    private static long call(StonesAsked x, String name, String told) throws ReflectiveOperationException {
        String[] texts = told.isEmpty() ? new String[0] : told.split(", ");
        for (Method m : StonesAsked.class.getMethods()) {
            if (m.getName().equals(name) && m.getDeclaringClass() == StonesAsked.class) {
                Object[] values = new Object[texts.length];
                for (int i = 0; i < texts.length; i++) {
                    boolean isLong = m.getParameterTypes()[i] == long.class;
                    values[i] = isLong ? (Object) Long.valueOf(texts[i]) : (Object) Integer.valueOf(texts[i]);
                }
                return ((Number) m.invoke(x, values)).longValue();
            }
        }
        throw new NoSuchMethodException(name);
    }
}
