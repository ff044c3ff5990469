import java.lang.reflect.Method;
import java.lang.reflect.Modifier;
import java.nio.file.Files;
import java.nio.file.Path;
import java.util.regex.Matcher;
import java.util.regex.Pattern;

/** README.md: its example, line by line, answers what it says, and it tells of every call. */
public final class ReadmeTest {
    private static final Pattern EXAMPLE = Pattern.compile("(?s)```java\n(.*?)```");
    private static final Pattern CALL = Pattern.compile("boxes\\.(\\w+)\\(([^)]*)\\); +// (-?\\d+)\\b.*");

    private ReadmeTest() {
    }

    public static void main(String[] args) throws Exception {
        String readme = Files.readString(Path.of("README.md"));
        example(readme);
        for (Method method : HundredBoxes.class.getDeclaredMethods()) {
            if (Modifier.isPublic(method.getModifiers())) {
                Check.due("told: " + method, readme.contains("`" + method.getName() + "(") ? 1 : 0, 1);
            }
        }
        Check.due("how to run the tests", readme.contains(".ci/run") ? 1 : 0, 1);
        Check.end("ReadmeTest");
    }

    private static void example(String readme) throws Exception {
        Matcher example = EXAMPLE.matcher(readme);
        Check.due("there is an example", example.find() ? 1 : 0, 1);
        HundredBoxes boxes = new HundredBoxes();
        String[] lines = example.group(1).split("\n");
        for (int i = 1; i < lines.length; i++) {
            Matcher call = CALL.matcher(lines[i]);
            boolean matches = call.matches();
            Check.due("a call with its answer: " + lines[i], matches ? 1 : 0, 1);
            if (matches) {
                Check.due(lines[i], answer(boxes, call.group(1), call.group(2)), Long.parseLong(call.group(3)));
            }
        }
    }

    private static long answer(HundredBoxes boxes, String name, String told) throws Exception {
        String[] texts = told.isEmpty() ? new String[0] : told.split(", ");
        for (Method method : HundredBoxes.class.getDeclaredMethods()) {
            if (method.getName().equals(name) && method.getParameterCount() == texts.length) {
                Object[] given = new Object[texts.length];
                for (int i = 0; i < texts.length; i++) {
                    boolean isLong = method.getParameterTypes()[i] == long.class;
                    long value = Long.parseLong(texts[i]);
                    given[i] = isLong ? (Object) value : (Object) (int) value;
                }
                return ((Number) method.invoke(boxes, given)).longValue();
            }
        }
        throw new IllegalArgumentException("no such call: " + name + "(" + told + ")");
    }
}
