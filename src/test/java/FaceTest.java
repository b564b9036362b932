import java.lang.reflect.Constructor;
import java.lang.reflect.Field;
import java.lang.reflect.Method;
import java.lang.reflect.Modifier;
import java.util.Arrays;
import java.util.Set;
import java.util.TreeSet;

/** The public face is the document's: these members and no other that can be seen from outside. */
public final class FaceTest {
    private static final String[] METHODS = {
        "public int child(int, int, int, int)",
        "public int close(int, int, int, int)",
        "public int drop()",
        "public int kill(int)",
        "public int merge()",
        "public int object(int, int)",
        "public int count(int)",
        "public int root(int)",
        "public int find(int, int, int)",
        "public int join(int)",
        "public int up(int, int)",
        "public int down(int)",
        "public int over()",
        "public int again()",
        "public int pop()",
        "public int hit(int)",
        "public long score(int)",
        "public int family(int, int)",
        "public long share() throws ArithmeticException",
    };

    private static int wrong = 0;

    private static void due(String what, Object got, Object want) {
        if (!want.equals(got)) {
            wrong++;
            System.out.println(what + ": is " + got + ", due is " + want);
        }
    }

    private static String types(Class<?>[] types) {
        StringBuilder text = new StringBuilder();
        for (Class<?> type : types) {
            text.append(text.length() == 0 ? "" : ", ").append(type.getSimpleName());
        }
        return text.toString();
    }

    private static String face(Method m) {
        String thrown = types(m.getExceptionTypes());
        return Modifier.toString(m.getModifiers()) + " " + m.getReturnType().getSimpleName() + " "
                + m.getName() + "(" + types(m.getParameterTypes()) + ")"
                + (thrown.isEmpty() ? "" : " throws " + thrown);
    }

    private static void methods() {
        Set<String> seen = new TreeSet<>();
        Set<String> publicNames = new TreeSet<>();
        for (Method m : JoinBlocks.class.getDeclaredMethods()) {
            if (!Modifier.isPrivate(m.getModifiers())) {
                seen.add(face(m));
                publicNames.add(m.getName());
            }
        }
        due("methods", seen, new TreeSet<>(Arrays.asList(METHODS)));
        for (Method m : JoinBlocks.class.getDeclaredMethods()) {
            if (Modifier.isPrivate(m.getModifiers())) {
                due("a private method with a public name, " + m.getName(), publicNames.contains(m.getName()), false);
            }
        }
    }

    private static void fields() {
        Set<String> seen = new TreeSet<>();
        for (Field f : JoinBlocks.class.getDeclaredFields()) {
            int modifiers = f.getModifiers();
            if (!Modifier.isPrivate(modifiers)) {
                seen.add(Modifier.toString(modifiers) + " " + f.getType().getSimpleName() + " " + f.getName());
            }
            if (Modifier.isStatic(modifiers)) {
                due("static field " + f.getName() + " is final", Modifier.isFinal(modifiers), true);
            }
        }
        due("fields", seen, Set.of("public static final long NOTHING"));
        due("NOTHING", JoinBlocks.NOTHING, Long.MIN_VALUE);
    }

    private static void classAndConstructor() {
        due("class", Modifier.toString(JoinBlocks.class.getModifiers()), "public final");
        Constructor<?>[] made = JoinBlocks.class.getDeclaredConstructors();
        due("constructors", made.length, 1);
        due("constructor", Modifier.toString(made[0].getModifiers()) + " (" + types(made[0].getParameterTypes()) + ")",
                "public ()");
        for (Class<?> inside : JoinBlocks.class.getDeclaredClasses()) {
            int modifiers = inside.getModifiers();
            due(inside + " is static", Modifier.isStatic(modifiers), true);
            due(inside + " is hidden", Modifier.isPublic(modifiers) || Modifier.isProtected(modifiers), false);
        }
    }

    public static void main(String[] args) {
        classAndConstructor();
        methods();
        fields();
        System.out.println(wrong == 0 ? "the face is as due" : wrong + " parts of the face are not as due");
        if (wrong != 0) {
            System.exit(1);
        }
    }
}
