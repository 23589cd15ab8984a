import java.io.IOException;
import java.lang.reflect.Method;
import java.lang.reflect.Modifier;
import java.nio.file.Files;
import java.nio.file.Path;
import java.util.regex.Matcher;
import java.util.regex.Pattern;

/** The examples of README.md answer as is said beside them, and it names every method of the face. */
public final class ReadmeTest {
    private static final Path README = Path.of("README.md");

    private static final Pattern MADE = Pattern.compile("^HoleHouse house = new HoleHouse\\(\\);.*");
    private static final Pattern CALL =
        Pattern.compile("^house\\.(\\w+)\\(([^)]*)\\); +// (-?\\d+|true|false)(?::.*)?$");

    private static final Check check = new Check("README.md");

    public static void main(String[] args) throws IOException, ReflectiveOperationException {
        String text = Files.readString(README);
        int examples = 0;
        Matcher blocks = Pattern.compile("(?s)```java\n(.*?)```").matcher(text);
        while (blocks.find()) {
            examples++;
            example(blocks.group(1));
        }
        check.hold("it has examples", examples > 0);
        namesEveryMethod(text);
        check.finish();
    }

    private static void example(String lines) throws ReflectiveOperationException {
        HoleHouse house = null;
        for (String line : lines.split("\n")) {
            Matcher call = CALL.matcher(line);
            if (MADE.matcher(line).matches()) {
                house = new HoleHouse();
            } else if (house != null && call.matches()) {
                Object answer = answer(house, call.group(1), call.group(2));
                check.hold(line + " answered " + answer, call.group(3).equals(String.valueOf(answer)));
            } else {
                check.hold("a call with its answer: " + line, false);
            }
        }
    }

    private static Object answer(HoleHouse house, String name, String list) throws ReflectiveOperationException {
        String[] numbers = list.isEmpty() ? new String[0] : list.split(", ");
        Class<?>[] kinds = new Class<?>[numbers.length];
        Object[] arguments = new Object[numbers.length];
        for (int i = 0; i < numbers.length; i++) {
            kinds[i] = int.class;
            arguments[i] = Integer.decode(numbers[i]);
        }
        return HoleHouse.class.getMethod(name, kinds).invoke(house, arguments);
    }

    private static void namesEveryMethod(String text) {
        for (Method method : HoleHouse.class.getDeclaredMethods()) {
            if (Modifier.isPublic(method.getModifiers())) {
                check.hold("it names " + method.getName(), text.contains("`" + method.getName() + "("));
            }
        }
    }
}
