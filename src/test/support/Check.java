import java.lang.reflect.InvocationTargetException;
import java.lang.reflect.Method;
import java.util.Arrays;
import java.util.Comparator;
import java.util.List;
import java.util.function.Supplier;
import java.util.function.ToLongFunction;

/** Runs the tests of a class, each named after a sentence, and tells the answers that are not as due. */
public final class Check {
    /** Stands for an ArithmeticException where the answers of calls are compared; no call answers it. */
    public static final long THROWN = Long.MIN_VALUE + 1;

    private static int wrong = 0;
    private static String sentence = "";

    private Check() {
    }

    /** A call with one number of its own, the one whose bounds are looked at. */
    public interface Numbered {
        long on(JoinBlocks x, int number);
    }

    public static void runAll(Class<?> tests) {
        Method[] methods = tests.getDeclaredMethods();
        Arrays.sort(methods, Comparator.comparing(Method::getName));
        int ran = 0;
        for (Method method : methods) {
            Sentence named = method.getAnnotation(Sentence.class);
            if (named != null) {
                sentence = "promise " + named.promise() + ", \"" + named.says() + "\" (" + method.getName() + ")";
                run(method);
                ran++;
            }
        }
        System.out.println(ran + " sentences, " + wrong + " answers not as due");
        if (wrong != 0 || ran == 0) {
            System.exit(1);
        }
    }

    private static void run(Method method) {
        try {
            method.setAccessible(true);
            method.invoke(null);
        } catch (InvocationTargetException e) {
            fault("threw " + e.getCause());
        } catch (IllegalAccessException e) {
            fault("cannot be run: " + e);
        }
    }

    private static void fault(String what) {
        wrong++;
        System.out.println(sentence + ": " + what);
    }

    public static void due(String what, long got, long want) {
        if (got != want) {
            fault(what + " answered " + got + ", due is " + want);
        }
    }

    public static void dueCounts(JoinBlocks x, int objects, int living, int roots, int open, int sets) {
        int[] counts = {objects, living, roots, open, sets};
        for (int what = 0; what < counts.length; what++) {
            due("count(" + what + ")", x.count(what), counts[what]);
        }
    }

    /** The last SET has these objects and no other: numbers and SCORES in turn, in the order of the HITS. */
    public static void dueSet(JoinBlocks x, String what, long... numbersAndScores) {
        int many = numbersAndScores.length / 2;
        due(what + ": hit(-1)", x.hit(-1), many);
        for (int i = 0; i < many; i++) {
            long number = numbersAndScores[2 * i];
            due(what + ": hit(" + i + ")", x.hit(i), number);
            due(what + ": score(" + number + ")", x.score((int) number), numbersAndScores[2 * i + 1]);
        }
        due(what + ": hit(" + many + ")", x.hit(many), -1);
    }

    public static void dueFamily(JoinBlocks x, int object, int... members) {
        due("family(" + object + ", -1)", x.family(object, -1), members.length);
        for (int k = 0; k < members.length; k++) {
            due("family(" + object + ", " + k + ")", x.family(object, k), members[k]);
        }
        due("family(" + object + ", " + members.length + ")", x.family(object, members.length), -1);
    }

    public static long share(JoinBlocks x) {
        try {
            return x.share();
        } catch (ArithmeticException e) {
            return THROWN;
        }
    }

    /** The call answers this, and nothing that can be asked for is other than without it. */
    public static void refused(String what, Supplier<JoinBlocks> scene, ToLongFunction<JoinBlocks> call, long answer) {
        due(what, call.applyAsLong(scene.get()), answer);
        unchanged(what, scene, call);
    }

    /** A question answers this and leaves all as it was, like a refusal. */
    public static void asked(String what, Supplier<JoinBlocks> scene, ToLongFunction<JoinBlocks> call, long answer) {
        refused(what, scene, call, answer);
    }

    public static void unchanged(String what, Supplier<JoinBlocks> scene, ToLongFunction<JoinBlocks> call) {
        List<String> before = State.of(scene);
        List<String> after = State.of(() -> {
            JoinBlocks x = scene.get();
            call.applyAsLong(x);
            return x;
        });
        for (int i = 0; i < before.size() || i < after.size(); i++) {
            String was = i < before.size() ? before.get(i) : "none";
            String is = i < after.size() ? after.get(i) : "none";
            if (!was.equals(is)) {
                fault(what + " changed: " + was + " INTO " + is);
            }
        }
    }

    /** The last numbers that are taken and the first that are refused, on both sides, and the farthest ones. */
    public static void bounds(Supplier<JoinBlocks> scene, Numbered call, int least, int most, long taken) {
        due("with " + least, call.on(scene.get(), least), taken);
        due("with " + most, call.on(scene.get(), most), taken);
        outside(scene, call, least, most, -2);
    }

    public static void outside(Supplier<JoinBlocks> scene, Numbered call, int least, int most, long answer) {
        for (int number : new int[] {least - 1, most + 1, Integer.MIN_VALUE, Integer.MAX_VALUE}) {
            refused("with " + number, scene, x -> call.on(x, number), answer);
        }
    }
}
