import java.io.IOException;
import java.lang.reflect.Field;
import java.lang.reflect.Method;
import java.lang.reflect.Modifier;
import java.nio.file.Files;
import java.nio.file.Path;
import java.util.ArrayList;
import java.util.List;
import java.util.Set;
import java.util.TreeSet;
import java.util.regex.Matcher;
import java.util.regex.Pattern;

/** What the source's text shows of LANGUAGE.md's rules, and the remarks that the document has in the interface. */
public final class SourceTest {
    private static final String[] BLOCK_CALLS = {
        "child", "close", "drop", "kill", "merge", "object", "count", "root",
    };
    private static final String[] SET_CALLS = {
        "find", "join", "up", "down", "over", "again", "pop", "hit", "score", "family", "share",
    };
    /** Ruled out, or allowed under conditions that are not looked at here: the class does without. */
    private static final String[] WORDS_NOT_USED = {
        "package", "import", "try", "catch", "finally", "synchronized", "assert", "protected", "double", "float",
        "Object", "equals", "hashCode", "toString", "Random", "Thread",
    };
    private static final Set<String> LIBRARY = Set.of(
            "Long.MIN_VALUE", "Integer.bitCount", "Math.max", "Math.min", "System.arraycopy");

    private static final Pattern METHOD = Pattern.compile(
            "( {4}| {8})(?!(?:if|for|while|switch) )\\w[^=;(]*\\([^)]*\\)[\\w ]*\\{");

    private static int wrong = 0;

    private static void due(String what, Object got, Object want) {
        if (!want.equals(got)) {
            wrong++;
            System.out.println(what + ": is " + got + ", due is " + want);
        }
    }

    private static String withoutCommentsAndTexts(String source) {
        return source.replaceAll("(?s)/\\*.*?\\*/", "").replaceAll("//[^\n]*", "").replaceAll("\"[^\"\n]*\"", "\"\"");
    }

    private static List<String> found(String pattern, String text) {
        List<String> all = new ArrayList<>();
        Matcher matcher = Pattern.compile(pattern).matcher(text);
        while (matcher.find()) {
            all.add(matcher.group(1));
        }
        return all;
    }

    /** "Ahead of the calls ... the interface says: ---- blocks", and ---- sets. */
    private static void remarks(String source) {
        int blocks = source.indexOf("// ---- blocks\n");
        int sets = source.indexOf("// ---- sets\n");
        due("both remarks are there, in this order", blocks > 0 && sets > blocks, true);
        if (blocks > 0 && sets > blocks) {
            String call = "public \\w+ (\\w+)\\(";
            due("calls ahead of the remarks", found(call, source.substring(0, blocks)), List.of());
            due("calls behind ---- blocks", found(call, source.substring(blocks, sets)), List.of(BLOCK_CALLS));
            due("calls behind ---- sets", found(call, source.substring(sets)), List.of(SET_CALLS));
        }
    }

    private static void words(String code) {
        for (String word : WORDS_NOT_USED) {
            due("uses of " + word, found("\\b(" + word + ")\\b", code).size(), 0);
        }
        due("lambdas and method references", found("(->|::)", code).size(), 0);
        due("static initialisers", found("\\b(static)\\s*\\{", code).size(), 0);
        due("what is thrown", found("\\bthrow\\s+new\\s+(\\w+)", code), List.of("ArithmeticException"));
        due("throw without new", found("\\b(throw)\\s+(?!new\\b)", code).size(), 0);
        Set<String> used = new TreeSet<>(found("\\b([A-Z]\\w*\\.\\w+)", code));
        used.removeAll(LIBRARY);
        due("other parts of the library", used, Set.of());
    }

    private static List<Class<?>> classes() {
        List<Class<?>> all = new ArrayList<>(List.of(JoinBlocks.class.getDeclaredClasses()));
        all.add(JoinBlocks.class);
        return all;
    }

    private static void sizes() {
        due("at most twelve classes", classes().size() <= 12, true);
        for (Class<?> each : classes()) {
            int fields = 0;
            for (Field field : each.getDeclaredFields()) {
                fields += Modifier.isStatic(field.getModifiers()) ? 0 : 1;
                boolean free = !Modifier.isStatic(field.getModifiers()) || Modifier.isFinal(field.getModifiers());
                due(each + ", static fields are final: " + field.getName(), free, true);
            }
            due(each + ": at most twenty fields", fields <= 20, true);
            for (Method method : each.getDeclaredMethods()) {
                due(method + ": at most seven parameters", method.getParameterCount() <= 7, true);
            }
        }
    }

    private static int declared() {
        int declared = 0;
        for (Class<?> each : classes()) {
            declared += each.getDeclaredMethods().length + each.getDeclaredConstructors().length;
        }
        return declared;
    }

    private static void lengths(List<String> lines) {
        int methods = 0;
        for (int first = 0; first < lines.size(); first++) {
            Matcher method = METHOD.matcher(lines.get(first));
            if (method.matches()) {
                int length = lines.subList(first, lines.size()).indexOf(method.group(1) + "}") + 1;
                due("line " + (first + 1) + ": at most sixty lines", length > 0 && length <= 60, true);
                methods++;
            }
        }
        due("methods and constructors found by their lines", methods, declared());
    }

    public static void main(String[] args) throws IOException {
        String source = Files.readString(Path.of("src/main/java/JoinBlocks.java"));
        remarks(source);
        words(withoutCommentsAndTexts(source));
        sizes();
        lengths(source.lines().toList());
        System.out.println(wrong == 0 ? "the source is as due" : wrong + " parts of the source are not as due");
        if (wrong != 0) {
            System.exit(1);
        }
    }
}
