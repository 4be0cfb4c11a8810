import java.io.IOException;
import java.lang.reflect.Method;
import java.nio.file.Files;
import java.nio.file.Path;
import java.util.regex.Matcher;
import java.util.regex.Pattern;

// The example is read from README.md, so that the two can't drift apart.
public final class ReadmeTests {
    private static final Pattern CALL = Pattern.compile("broker\\.(\\w+)\\((.*)\\); +// (-?\\w+)(:.*)?");

    private static int calls = 0;
    private static int wrong = 0;

    public static void main(String[] args) throws IOException, ReflectiveOperationException {
        LeasedMessages broker = new LeasedMessages();
        for (String line : Files.readAllLines(Path.of("README.md"))) {
            if (line.startsWith("broker.")) {
                check(broker, line);
            }
        }
        if (calls == 0) {
            System.out.println("README.md has no call of an example");
        }
        if (calls == 0 || wrong > 0) {
            System.exit(1);
        }
    }

    private static void check(LeasedMessages broker, String line) throws ReflectiveOperationException {
        calls++;
        Matcher parts = CALL.matcher(line);
        if (!parts.matches()) {
            wrong++;
            System.out.println("no call with its answer: " + line);
            return;
        }
        int got = answer(broker, parts.group(1), parts.group(2).split(", "));
        int want = number(parts.group(3));
        if (got != want) {
            wrong++;
            System.out.println(line + " | answered " + got + ", due is " + want);
        }
    }

    private static int answer(LeasedMessages broker, String name, String[] words)
            throws ReflectiveOperationException {
        Class<?>[] types = new Class<?>[words.length];
        Object[] numbers = new Object[words.length];
        for (int i = 0; i < words.length; i++) {
            types[i] = int.class;
            numbers[i] = number(words[i].replace("LeasedMessages.", ""));
        }
        Method method = LeasedMessages.class.getMethod(name, types);
        return (int) method.invoke(broker, numbers);
    }

    private static int number(String word) throws ReflectiveOperationException {
        if (word.matches("-?\\d+")) {
            return Integer.parseInt(word);
        }
        return LeasedMessages.class.getField(word).getInt(null);
    }
}
