import java.io.IOException;
import java.lang.reflect.Constructor;
import java.lang.reflect.Field;
import java.lang.reflect.Method;
import java.lang.reflect.Modifier;
import java.nio.file.Files;
import java.nio.file.Path;
import java.util.Arrays;
import java.util.List;
import java.util.TreeSet;
import java.util.regex.Matcher;
import java.util.regex.Pattern;

/** The face of the class and those rules of ../shared/LANGUAGE.md that can be seen from outside. */
final class LanguageTests {
    private static final List<String> CALLS = List.of(
        "rows/3", "order/1", "divisors/2", "net/1", "clear/0", "row/3", "thing/1", "below/3",
        "post/1", "road/3", "rule/2", "told/2", "isBelow/3", "bite/3", "won/1", "worth/1",
        "length/1", "winning/1", "boards/3", "ranked/2", "play/2", "answer/1", "back/1",
        "noted/2", "sum/1", "inSum/2");
    private static final String FACE =
        "-games rows order divisors net clear row thing below post road rule told isBelow bite "
        + "-solved won worth length winning boards ranked -plays play answer back noted -sums sum inSum ";
    private static final List<String> CONSTANTS = List.of("NONE", "UNKNOWN", "OUTSIDE", "NOT", "FULL");
    private static final List<String> FORBIDDEN = List.of(
        "throw", "try", "catch", "synchronized", "assert", "import", "package", "volatile",
        "native", "System", "Object", "Exact");
    private static final int MOST_LINES = 60;
    private static final int SOLVING_CALLS = 8;

    private LanguageTests() {
    }

    static void run(Checks checks, String file) throws IOException {
        face(checks);
        fields(checks);
        for (Class<?> inner : BittenBoards.class.getDeclaredClasses()) {
            innerClass(checks, inner);
        }
        String text = Files.readString(Path.of(file));
        faceInOrder(checks, text);
        String code = withoutComments(text);
        words(checks, code);
        methodLengths(checks, code);
        rowsStand(checks, code);
        room(checks);
    }

    private static void face(Checks checks) {
        TreeSet<String> calls = new TreeSet<>();
        for (Method m : BittenBoards.class.getDeclaredMethods()) {
            if (Modifier.isPublic(m.getModifiers())) {
                calls.add(m.getName() + "/" + m.getParameterCount());
                checks.holds(m + " is of numbers", isOfNumbers(m));
            } else {
                checks.holds(m + " is private", Modifier.isPrivate(m.getModifiers()));
                checks.holds(m + " has a name of its own",
                        CALLS.stream().noneMatch(c -> c.startsWith(m.getName() + "/")));
            }
        }
        checks.holds("the public calls are the document's", calls.equals(new TreeSet<>(CALLS)));
        Constructor<?>[] made = BittenBoards.class.getDeclaredConstructors();
        checks.due("constructors", made.length, 1);
        checks.due("its parameters", made[0].getParameterCount(), 0);
        checks.holds("it is public", Modifier.isPublic(made[0].getModifiers()));
        int modifiers = BittenBoards.class.getModifiers();
        checks.holds("public and final", Modifier.isPublic(modifiers) && Modifier.isFinal(modifiers));
    }

    /** The calls as the document lists them, with its heads ahead of them. */
    private static void faceInOrder(Checks checks, String text) {
        StringBuilder found = new StringBuilder();
        Matcher line = Pattern.compile("(?m)^    (?:// ---- (\\w+)$|public int (\\w+)\\()").matcher(text);
        while (line.find()) {
            found.append(line.group(1) != null ? "-" + line.group(1) : line.group(2)).append(' ');
        }
        checks.holds("the calls stand in the document's order: " + found, found.toString().equals(FACE));
    }

    private static boolean isOfNumbers(Method m) {
        return m.getReturnType() == int.class && !Modifier.isStatic(m.getModifiers())
                && Arrays.stream(m.getParameterTypes()).allMatch(t -> t == int.class);
    }

    private static void fields(Checks checks) {
        for (Field f : BittenBoards.class.getDeclaredFields()) {
            int modifiers = f.getModifiers();
            boolean isConstant = Modifier.isPublic(modifiers) && Modifier.isStatic(modifiers)
                    && Modifier.isFinal(modifiers) && CONSTANTS.contains(f.getName());
            checks.holds(f + " is private or of the face", Modifier.isPrivate(modifiers) || isConstant);
            checks.holds(f + " is no static state",
                    !Modifier.isStatic(modifiers) || Modifier.isFinal(modifiers));
        }
    }

    private static void innerClass(Checks checks, Class<?> inner) {
        int modifiers = inner.getModifiers();
        checks.holds(inner + " is static", Modifier.isStatic(modifiers));
        checks.holds(inner + " is not public",
                !Modifier.isPublic(modifiers) && !Modifier.isProtected(modifiers));
        int own = 0;
        for (Field f : inner.getDeclaredFields()) {
            if (!Modifier.isStatic(f.getModifiers())) {
                own++;
            } else {
                checks.holds(f + " is final", Modifier.isFinal(f.getModifiers()));
            }
        }
        checks.holds(inner + " has some twenty fields", own <= 20);
        for (Method m : inner.getDeclaredMethods()) {
            checks.holds(m + " bears no name of the face",
                    CALLS.stream().noneMatch(c -> c.startsWith(m.getName() + "/")));
            checks.holds(m + " has at most seven parameters", m.getParameterCount() <= 7);
        }
    }

    private static String withoutComments(String text) {
        return text.replaceAll("(?s)/\\*.*?\\*/", "").replaceAll("//[^\n]*", "");
    }

    private static void words(Checks checks, String code) {
        for (String word : FORBIDDEN) {
            checks.holds("no " + word, !Pattern.compile("\\b" + word + "\\b").matcher(code).find());
        }
        checks.holds("no lambda", !code.contains("->"));
        checks.holds("no method reference", !code.contains("::"));
        checks.holds("no text", code.indexOf('"') < 0);
        Matcher library = Pattern.compile("\\b(Math|Integer|Long)\\.(\\w+)").matcher(code);
        while (library.find()) {
            checks.holds(library.group() + " is in the library",
                    List.of("max", "min", "bitCount").contains(library.group(2)));
        }
    }

    /** A method is what begins with four or eight spaces and ends in a brace as far in. */
    private static void methodLengths(Checks checks, String code) {
        Matcher method = Pattern.compile("(?ms)^((?: {4}){1,2})(?! |private static final class)[^\n;=]*\\) \\{\n.*?^\\1\\}").matcher(code);
        int found = 0;
        while (method.find()) {
            found++;
            long lines = method.group().lines().count();
            checks.holds("a method of " + lines + " lines is short", lines <= MOST_LINES);
        }
        checks.holds("methods were found", found > 80);
    }

    /** All calls of one run live in one room: its rows stand from the constructor on. */
    private static void room(Checks checks) {
        com.sun.management.ThreadMXBean threads =
                (com.sun.management.ThreadMXBean) java.lang.management.ManagementFactory.getThreadMXBean();
        long thread = Thread.currentThread().getId();
        // Once unmeasured, so that what the machine makes for the first use is not counted.
        useAll(new BittenBoards());
        threads.getThreadAllocatedBytes(thread);
        long before = threads.getThreadAllocatedBytes(thread);
        BittenBoards x = new BittenBoards();
        long between = threads.getThreadAllocatedBytes(thread);
        useAll(x);
        long after = threads.getThreadAllocatedBytes(thread);
        checks.holds("the constructor made " + (between - before) + " bytes",
                between - before < 1_000_000);
        // Less than a byte a call: a row would take 16 at least.
        checks.holds("the calls made " + (after - between) + " bytes", after - between < 512);
    }

    /** Orders, nets and rows by turns in all six places, each solved first by another call. */
    private static void useAll(BittenBoards x) {
        for (int round = 0; round < SOLVING_CALLS; round++) {
            x.clear();
            for (int g = 0; g < 6; g++) {
                fill(x, g, (round + g) % 3);
                solveBy(x, g, round);
            }
        }
        x.clear();
        x.divisors(6000, 0);
        x.divisors(60, 1);
        for (int what = 0; what <= 2; what++) {
            x.boards(7, 7, what);
            x.told(0, what);
            x.told(0, what + 3);
        }
        x.rule(0, 0);
        x.isBelow(0, 0, 1);
        x.ranked(1000, 3);
    }

    private static void fill(BittenBoards x, int g, int kind) {
        if (kind == 0) {
            x.rows(7, 7, g & 1);
            x.row(g, 3, 5);
        } else if (kind == 1) {
            x.order(g & 1);
            x.thing(g);
            x.thing(g);
            x.below(g, 0, 1);
        } else {
            x.net(g & 1);
            x.post(g);
            x.post(g);
            x.road(g, 0, 1);
        }
    }

    private static void solveBy(BittenBoards x, int g, int call) {
        switch (call) {
            case 0 -> x.won(g);
            case 1 -> x.worth(g);
            case 2 -> x.length(g);
            case 3 -> x.winning(g);
            case 4 -> x.bite(g, 0, 2);
            case 5 -> x.answer(g);
            case 6 -> x.sum(1 << g);
            default -> x.inSum(1 << g, 1);
        }
        x.play(g, 0);
        x.noted(g, 0);
        x.back(g);
    }

    /** A row is made where its field stands, and nowhere else. */
    private static void rowsStand(Checks checks, String code) {
        for (String line : code.lines().toList()) {
            if (Pattern.compile("\\bnew \\w+\\[").matcher(line).find()) {
                checks.holds(line.strip() + " is a field", line.strip().startsWith("private final "));
            }
        }
        checks.holds("nothing is copied into a new row",
                !Pattern.compile("\\b(Arrays|clone)\\b").matcher(code).find());
    }
}
