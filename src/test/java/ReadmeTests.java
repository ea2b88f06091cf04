import java.io.IOException;
import java.lang.reflect.Method;
import java.lang.reflect.Modifier;
import java.nio.file.Files;
import java.nio.file.Path;
import java.util.HashMap;
import java.util.Map;
import java.util.TreeSet;
import java.util.regex.Matcher;
import java.util.regex.Pattern;

/**
 * What README.md shows, the class answers: each call of its Java blocks is done, from the first
 * one on, and must answer the number (or the constant) that the comment behind it begins with.
 */
final class ReadmeTests {
    private static final Pattern BLOCK = Pattern.compile("(?ms)^```java\n(.*?)^```$");
    private static final Pattern MADE = Pattern.compile("BittenBoards x = new BittenBoards\\(\\);");
    private static final Pattern CALL =
        Pattern.compile("(?:int (\\w+) = )?x\\.(\\w+)\\(([^()]*)\\); +// (-?\\d+|[A-Z]+): .+");

    private final Checks checks;
    private final Map<String, Integer> names = new HashMap<>();
    private final TreeSet<String> shown = new TreeSet<>();
    private BittenBoards x;

    private ReadmeTests(Checks checks) {
        this.checks = checks;
    }

    static void run(Checks checks, String file) throws IOException {
        ReadmeTests tests = new ReadmeTests(checks);
        String text = Files.readString(Path.of(file));
        Matcher block = BLOCK.matcher(text);
        while (block.find()) {
            block.group(1).lines().forEach(tests::follow);
        }
        for (Method m : BittenBoards.class.getDeclaredMethods()) {
            if (Modifier.isPublic(m.getModifiers())) {
                checks.holds(file + " shows " + m.getName(), tests.shown.contains(m.getName()));
            }
        }
        checks.holds(file + " says how to run the tests", text.contains("\n    .ci/run\n"));
        checks.holds("what it says is there", Files.isExecutable(Path.of(".ci/run")));
    }

    private void follow(String line) {
        Matcher call = CALL.matcher(line);
        if (MADE.matcher(line).matches()) {
            x = new BittenBoards();
            names.clear();
        } else if (call.matches() && x != null) {
            int got = answerOf(call.group(2), call.group(3));
            checks.due("README.md: " + line, got, numberOf(call.group(4)));
            shown.add(call.group(2));
            if (call.group(1) != null) {
                names.put(call.group(1), got);
            }
        } else {
            checks.holds("README.md: the line is a call with its answer: " + line, line.isEmpty());
        }
    }

    private int answerOf(String name, String arguments) {
        String[] parts = arguments.isEmpty() ? new String[0] : arguments.split(", ");
        Class<?>[] types = new Class<?>[parts.length];
        Object[] numbers = new Object[parts.length];
        for (int k = 0; k < parts.length; k++) {
            types[k] = int.class;
            numbers[k] = numberOf(parts[k]);
        }
        try {
            return (int) BittenBoards.class.getMethod(name, types).invoke(x, numbers);
        } catch (ReflectiveOperationException e) {
            throw new IllegalStateException("README.md shows a call that fails: " + name, e);
        }
    }

    /** A number, a game that a line above named, or a constant of the class. */
    private int numberOf(String text) {
        if (names.containsKey(text)) {
            return names.get(text);
        }
        if (!Character.isLetter(text.charAt(0))) {
            return Integer.parseInt(text);
        }
        try {
            return BittenBoards.class.getField(text).getInt(null);
        } catch (ReflectiveOperationException e) {
            throw new IllegalStateException("README.md names what is not there: " + text, e);
        }
    }
}
