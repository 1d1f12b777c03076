import java.io.IOException;
import java.lang.reflect.InvocationTargetException;
import java.lang.reflect.Method;
import java.nio.file.Files;
import java.nio.file.Path;
import java.util.regex.Matcher;
import java.util.regex.Pattern;

/** That the examples of README.md answer what stands beside them. */
public final class ReadmeTest {
    private static final String NEW = "GateLifter x = new GateLifter();";
    private static final Pattern CALL = Pattern.compile("^x\\.(\\w+)\\((.*?)\\); +// (throws )?([-\\w]+).*$");
    private static final Pattern TEXT = Pattern.compile("^\\| `(.*?)` \\| (wrong at )?(\\d+).*$");

    private static GateLifter x = new GateLifter();
    private static int calls = 0;
    private static int texts = 0;

    private ReadmeTest() {
    }

    public static void main(String[] args) throws IOException, IllegalAccessException {
        for (String line : Files.readAllLines(Path.of("README.md"))) {
            if (line.startsWith(NEW)) {
                x = new GateLifter();
            } else if (line.startsWith("x.")) {
                call(line);
            } else {
                text(line);
            }
        }
        Check.due("calls of the examples", calls, 18);
        Check.due("texts of the examples", texts, 4);
        Check.finish();
    }

    private static void call(String line) throws IllegalAccessException {
        Matcher parts = CALL.matcher(line);
        if (!parts.matches()) {
            Check.due("can be read: " + line, false, true);
            return;
        }
        calls++;
        Check.due(line, answer(parts.group(1), parts.group(2)), parts.group(4));
    }

    /** What a call answers, or the name of what it throws. */
    private static String answer(String name, String given) throws IllegalAccessException {
        String[] words = given.isEmpty() ? new String[0] : given.split(", ");
        for (Method method : GateLifter.class.getMethods()) {
            if (method.getName().equals(name) && method.getParameterCount() == words.length) {
                try {
                    return String.valueOf(method.invoke(x, numbers(words)));
                } catch (InvocationTargetException e) {
                    return e.getCause().getClass().getSimpleName();
                }
            }
        }
        return "there is no such call";
    }

    private static Object[] numbers(String[] words) {
        Object[] numbers = new Object[words.length];
        for (int i = 0; i < words.length; i++) {
            numbers[i] = Integer.decode(words[i]);
        }
        return numbers;
    }

    private static void text(String line) {
        Matcher parts = TEXT.matcher(line);
        if (!parts.matches()) {
            return;
        }
        texts++;
        x = new GateLifter();
        boolean wrong = parts.group(2) != null;
        int done = Texts.tell(x, parts.group(1));
        Check.due(line, wrong ? x.fault() : done, Integer.parseInt(parts.group(3)));
        Check.due("is wrong: " + line, done == -1, wrong);
    }
}
