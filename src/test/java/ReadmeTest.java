import java.io.IOException;
import java.lang.reflect.Method;
import java.nio.file.Files;
import java.nio.file.Path;
import java.util.regex.Matcher;
import java.util.regex.Pattern;

/** Makes the calls of README.md, one behind another, and holds their answers against those that stand there. */
final class ReadmeTest {
    private static final Pattern CALL = Pattern.compile("x\\.(\\w+)\\(([^)]*)\\); *// (-?\\w+):.*");
    private static final Pattern PIECE = Pattern.compile("\"([^\"]*)\"");
    private static final Pattern TOLD = Pattern.compile(".*\"\\); *// (-?\\d+):.*");

    private final EngagedTone x = new EngagedTone();
    private final StringBuilder text = new StringBuilder();
    private int calls;
    private int texts;

    public static void main(String[] args) throws IOException, ReflectiveOperationException {
        ReadmeTest test = new ReadmeTest();
        for (String line : Files.readAllLines(Path.of("README.md"))) {
            test.read(line.trim());
        }
        Check.due("calls are found", test.calls >= 40, true);
        Check.due("texts are found", test.texts, 2);
        Check.end();
    }

    private void read(String line) throws ReflectiveOperationException {
        if (line.startsWith("tell(x, \"") || line.startsWith("+ \"")) {
            readText(line);
            return;
        }
        Matcher call = CALL.matcher(line);
        if (call.matches()) {
            calls++;
            Check.due(line, answer(call.group(1), call.group(2)).equals(call.group(3)), true);
        }
    }

    private void readText(String line) {
        for (Matcher piece = PIECE.matcher(line); piece.find();) {
            text.append(piece.group(1));
        }
        Matcher told = TOLD.matcher(line);
        if (told.matches()) {
            texts++;
            Check.due(line, Check.tell(x, text.toString()), Long.parseLong(told.group(1)));
            text.setLength(0);
        }
    }

    private String answer(String name, String given) throws ReflectiveOperationException {
        String[] words = given.isEmpty() ? new String[0] : given.split(", *");
        for (Method method : EngagedTone.class.getMethods()) {
            if (method.getName().equals(name) && method.getParameterCount() == words.length) {
                return String.valueOf(method.invoke(x, numbers(words)));
            }
        }
        return "no such call";
    }

    private static Object[] numbers(String[] words) {
        Object[] numbers = new Object[words.length];
        for (int i = 0; i < words.length; i++) {
            if (words[i].equals("true") || words[i].equals("false")) {
                numbers[i] = words[i].equals("true");
            } else {
                numbers[i] = Integer.parseInt(words[i]);
            }
        }
        return numbers;
    }
}
