import java.io.IOException;
import java.lang.reflect.Method;
import java.nio.file.Files;
import java.nio.file.Path;
import java.util.Arrays;
import java.util.regex.Matcher;
import java.util.regex.Pattern;

/** The example of README.md, line by line: what its comments say is what the class answers. */
public final class ReadmeTest {
    private static final Check CHECK = new Check();
    private static final Pattern EXAMPLE = Pattern.compile("(?s)```java\n(.*?)```");
    private static final Pattern WRITE = Pattern.compile("write\\(plan, \"([^\"]*)\"\\);.*");
    private static final Pattern CALL = Pattern.compile("plan\\.(\\w+)\\(([^)]*)\\);\\s*// (-?\\d+)\\b.*");

    public static void main(String[] args) throws IOException, ReflectiveOperationException {
        Matcher example = EXAMPLE.matcher(Files.readString(Path.of("README.md")));
        CHECK.holds("README.md has an example", example.find());
        String[] lines = example.group(1).split("\n");
        CHECK.holds("the example begins with a new object", lines[0].equals("DialPlan plan = new DialPlan();"));
        DialPlan plan = new DialPlan();
        for (String line : Arrays.asList(lines).subList(1, lines.length)) {
            run(plan, line);
        }
        CHECK.finish();
    }

    private static void run(DialPlan plan, String line) throws ReflectiveOperationException {
        Matcher write = WRITE.matcher(line);
        Matcher call = CALL.matcher(line);
        if (write.matches()) {
            Check.write(plan, write.group(1));
        } else if (call.matches()) {
            CHECK.same(line, answer(plan, call.group(1), call.group(2)), Long.parseLong(call.group(3)));
        } else {
            CHECK.holds("\"" + line + "\" can be run", false);
        }
    }

    private static long answer(DialPlan plan, String name, String given) throws ReflectiveOperationException {
        String[] texts = given.isEmpty() ? new String[0] : given.split(", ");
        Class<?>[] types = new Class<?>[texts.length];
        Object[] values = new Object[texts.length];
        for (int i = 0; i < texts.length; i++) {
            types[i] = int.class;
            values[i] = Integer.valueOf(texts[i]);
        }
        Method method = DialPlan.class.getMethod(name, types);
        return ((Number) method.invoke(plan, values)).longValue();
    }
}
