import java.io.File;
import java.io.IOException;
import java.lang.reflect.InvocationTargetException;
import java.lang.reflect.Method;
import java.lang.reflect.Modifier;
import java.nio.file.Files;
import java.nio.file.Path;
import java.util.regex.Matcher;
import java.util.regex.Pattern;

/** README.md says what is so; it is run from the project's folder. */
public final class ReadmeTest {
    private static final Pattern WRITTEN = Pattern.compile("(?m)^write\\(world, \"([^\"]*)\"\\);");
    private static final Pattern CALL = Pattern.compile("(?m)^world\\.(\\w+)\\(([-0-9, ]*)\\); *// (-?\\d+)\\b");

    private final Due due = new Due("readme");

    public static void main(String[] args) throws IOException, ReflectiveOperationException {
        ReadmeTest test = new ReadmeTest();
        String page = Files.readString(Path.of("README.md"));
        test.answers(page);
        test.everyCallIsNamed(page);
        test.everyTestIsNamed(page);
        test.due.finish();
    }

    private void answers(String page) throws ReflectiveOperationException {
        TwoMetals world = new TwoMetals();
        Matcher written = WRITTEN.matcher(page);
        while (written.find()) {
            Due.write(world, written.group(1));
        }
        due.holds("a text is written", world.count(1) > 0);
        Matcher call = CALL.matcher(page);
        int calls = 0;
        while (call.find()) {
            due.is(call.group(), answerOf(world, call.group(1), call.group(2)), Long.parseLong(call.group(3)));
            calls++;
        }
        due.is("lines that call", calls, Pattern.compile("(?m)^world\\.").matcher(page).results().count());
        due.holds("there are such lines", calls > 0);
    }

    private static long answerOf(TwoMetals world, String name, String told)
            throws IllegalAccessException, InvocationTargetException {
        String[] parts = told.isEmpty() ? new String[0] : told.split(", ");
        Object[] numbers = new Object[parts.length];
        for (int i = 0; i < parts.length; i++) {
            numbers[i] = Integer.parseInt(parts[i]);
        }
        for (Method method : TwoMetals.class.getDeclaredMethods()) {
            if (method.getName().equals(name)) {
                return ((Number) method.invoke(world, numbers)).longValue();
            }
        }
        throw new IllegalArgumentException("no call " + name);
    }

    private void everyCallIsNamed(String page) {
        for (Method method : TwoMetals.class.getDeclaredMethods()) {
            boolean isOpen = Modifier.isPublic(method.getModifiers());
            due.holds(method.getName() + " is named", !isOpen || page.contains("`" + method.getName() + "`"));
        }
    }

    private void everyTestIsNamed(String page) {
        File[] files = new File("src/test/java").listFiles((folder, name) -> name.endsWith("Test.java"));
        due.holds("there are tests", files != null && files.length > 0);
        for (File file : files == null ? new File[0] : files) {
            String name = file.getName().replace(".java", "");
            due.holds(name + " is named", page.contains("| `" + name + "` |"));
        }
    }
}
