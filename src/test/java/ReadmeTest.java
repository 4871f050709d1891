import java.io.IOException;
import java.lang.reflect.InvocationTargetException;
import java.lang.reflect.Method;
import java.nio.file.Files;
import java.nio.file.Path;
import java.util.List;
import java.util.regex.Matcher;
import java.util.regex.Pattern;

/** README.md is held to what it says: each call there is made, and what stands behind it is due. */
public final class ReadmeTest {
    private static final Pattern CALL = Pattern.compile("house\\.(\\w+)\\((.*)\\); +// (-?\\d+|true|false)\\b.*");

    private static UnbeatenHouse house = new UnbeatenHouse();
    private static final StringBuilder text = new StringBuilder();
    private static int calls = 0;

    private ReadmeTest() {
    }

    public static void main(String[] args) throws IOException, ReflectiveOperationException {
        String block = "";
        List<String> own = Files.readAllLines(Path.of("src/test/java/ReadmeTest.java"));
        for (String line : Files.readAllLines(Path.of("README.md"))) {
            if (line.startsWith("```")) {
                takeText(block);
                block = line.substring(3);
            } else if (block.equals("text")) {
                text.append(line).append('\n');
            } else if (block.equals("java")) {
                take(line);
                boolean ofFeed = !line.startsWith("house.") && !line.startsWith("UnbeatenHouse ");
                Check.due("tried here: " + line, !ofFeed || own.contains("    " + line), true);
            }
        }
        Check.due("some calls: " + calls, calls > 60, true);
        Check.finish("ReadmeTest");
    }

    /** Where a text ends, a new object is fed it. */
    private static void takeText(String block) {
        if (block.equals("text")) {
            house = new UnbeatenHouse();
            feed(house, text.toString());
            text.setLength(0);
        }
    }

    /** Line by line as README.md says it, so that this is tried, too. */
    static void feed(UnbeatenHouse house, String text) {
        int[] five = new int[5];
        for (int at = 0; at < text.length(); at += 20) {
            for (int k = 0; k < 20; k++) {
                int sign = at + k < text.length() ? text.charAt(at + k) : ' ';
                five[k / 4] = five[k / 4] << 8 | sign;
            }
            house.feed(five[0], five[1], five[2], five[3], five[4]);
        }
        house.end(text.length());
    }

    private static void take(String line) throws ReflectiveOperationException {
        if (line.equals("UnbeatenHouse house = new UnbeatenHouse();")) {
            house = new UnbeatenHouse();
        } else if (line.startsWith("house.")) {
            Matcher call = CALL.matcher(line);
            Check.due("a call with its answer: " + line, call.matches(), true);
            if (call.matches()) {
                calls++;
                Check.due(line, told(call.group(1), call.group(2)).equals(call.group(3)), true);
            }
        }
    }

    private static String told(String name, String given) throws ReflectiveOperationException {
        String[] numbers = given.isEmpty() ? new String[0] : given.split(", ");
        for (Method method : UnbeatenHouse.class.getMethods()) {
            if (method.getName().equals(name) && method.getParameterCount() == numbers.length) {
                return answer(method, numbers);
            }
        }
        return "no such call";
    }

    private static String answer(Method method, String[] numbers)
            throws IllegalAccessException, InvocationTargetException {
        Object[] values = new Object[numbers.length];
        for (int i = 0; i < values.length; i++) {
            boolean truth = method.getParameterTypes()[i] == boolean.class;
            values[i] = truth ? (Object) Boolean.valueOf(numbers[i]) : (Object) Integer.decode(numbers[i]);
        }
        return String.valueOf(method.invoke(house, values));
    }
}
