import java.io.IOException;
import java.lang.reflect.Method;
import java.lang.reflect.Modifier;
import java.nio.file.Files;
import java.nio.file.Path;
import java.util.HashSet;
import java.util.Set;
import java.util.regex.Matcher;
import java.util.regex.Pattern;

/** README.md shows every call of the face, and each call of its example answers what is said beside it. */
public final class ReadmeTest {
    private static final Pattern EXAMPLE = Pattern.compile("(?s)```java\n(.*?)```");
    private static final Pattern CALL = Pattern.compile("part\\.(\\w+)\\(([-\\d, ]*)\\);\\s*// (-?\\d+)\\b.*");

    private ReadmeTest() {
    }

    public static void main(String[] args) throws IOException, ReflectiveOperationException {
        String text = Files.readString(Path.of("README.md"));
        Matcher example = EXAMPLE.matcher(text);
        Set<String> shown = new HashSet<>();
        while (example.find()) {
            play(example.group(1), shown);
        }
        for (Method method : SheetFolder.class.getDeclaredMethods()) {
            if (Modifier.isPublic(method.getModifiers())) {
                Due.dueTrue("the example has " + method.getName(), shown.contains(method.getName()));
                Due.dueTrue("the table has " + method.getName(),
                        Pattern.compile("(?m)^\\|.*`" + method.getName() + "\\(").matcher(text).find());
            }
        }
        Due.dueTrue("the tests are run by .ci/run", text.contains("`.ci/run`"));
        Due.end();
    }

    private static void play(String lines, Set<String> shown) throws ReflectiveOperationException {
        SheetFolder part = new SheetFolder();
        for (String line : lines.split("\n")) {
            Matcher call = CALL.matcher(line);
            if (call.matches()) {
                shown.add(call.group(1));
                Due.due(line, answer(part, call.group(1), call.group(2)), Integer.parseInt(call.group(3)));
            } else {
                Due.dueTrue("a call with its answer, or a new part: " + line,
                        line.isEmpty() || line.equals("SheetFolder part = new SheetFolder();"));
            }
        }
    }

    private static int answer(SheetFolder part, String name, String given) throws ReflectiveOperationException {
        String[] words = given.isEmpty() ? new String[0] : given.split(", ");
        Class<?>[] types = new Class<?>[words.length];
        Object[] numbers = new Object[words.length];
        for (int i = 0; i < words.length; i++) {
            types[i] = int.class;
            numbers[i] = Integer.valueOf(words[i]);
        }
        return (Integer) SheetFolder.class.getMethod(name, types).invoke(part, numbers);
    }
}
