import java.io.IOException;
import java.lang.reflect.InvocationTargetException;
import java.lang.reflect.Method;
import java.lang.reflect.Modifier;
import java.nio.file.Files;
import java.nio.file.Path;
import java.util.Arrays;
import java.util.Set;
import java.util.TreeSet;
import java.util.regex.Matcher;
import java.util.regex.Pattern;

/** The calls in README.md answer what stands behind them, and every call of the face is among them. */
public final class ReadmeTest {
    private static final String NEW_OBJECT = "JoinBlocks x = new JoinBlocks();";
    private static final Pattern CALL = Pattern.compile(
            "x\\.(\\w+)\\(([-0-9, ]*)\\); +// (-?\\d+|NOTHING|ArithmeticException)(: .+)?");

    private static int wrong = 0;
    private static int calls = 0;
    private static final Set<String> SEEN = new TreeSet<>();

    private static JoinBlocks x = null;

    private static void fault(String line, String what) {
        wrong++;
        System.out.println(line + " <- " + what);
    }

    private static Object[] numbers(String written) {
        return written.isBlank() ? new Object[0]
                : Arrays.stream(written.split(",")).map(number -> Integer.valueOf(number.trim())).toArray();
    }

    private static String answer(String name, Object[] numbers) throws ReflectiveOperationException {
        Class<?>[] types = new Class<?>[numbers.length];
        Arrays.fill(types, int.class);
        Method call = JoinBlocks.class.getMethod(name, types);
        try {
            String told = call.invoke(x, numbers).toString();
            boolean nothing = call.getReturnType() == long.class && told.equals(Long.toString(JoinBlocks.NOTHING));
            return nothing ? "NOTHING" : told;
        } catch (InvocationTargetException e) {
            return e.getCause().getClass().getSimpleName();
        }
    }

    private static void runLine(String line) throws ReflectiveOperationException {
        Matcher call = CALL.matcher(line);
        if (line.equals(NEW_OBJECT)) {
            x = new JoinBlocks();
        } else if (!call.matches()) {
            fault(line, "is no call with its answer");
        } else {
            calls++;
            SEEN.add(call.group(1));
            String told = answer(call.group(1), numbers(call.group(2)));
            if (!told.equals(call.group(3))) {
                fault(line, "answered " + told);
            }
        }
    }

    private static void runExamples() throws IOException, ReflectiveOperationException {
        boolean inExample = false;
        for (String line : Files.readAllLines(Path.of("README.md"))) {
            if (line.startsWith("```")) {
                inExample = line.equals("```java");
            } else if (inExample && !line.isBlank()) {
                runLine(line);
            }
        }
    }

    private static void everyCallIsShown() {
        for (Method call : JoinBlocks.class.getDeclaredMethods()) {
            if (Modifier.isPublic(call.getModifiers()) && !SEEN.contains(call.getName())) {
                fault(call.getName(), "is in no example");
            }
        }
    }

    public static void main(String[] args) throws IOException, ReflectiveOperationException {
        runExamples();
        everyCallIsShown();
        System.out.println(calls + " calls in README.md, " + wrong + " not as due");
        if (wrong != 0) {
            System.exit(1);
        }
    }
}
