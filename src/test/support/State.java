import java.util.ArrayList;
import java.util.List;
import java.util.function.Consumer;
import java.util.function.Supplier;
import java.util.function.ToLongFunction;

/** All that an object tells of its state, asked of several copies: none is used for more than 512 calls. */
public final class State {
    private static final int QUESTIONS_PER_COPY = 50;

    private final Supplier<JoinBlocks> copies;
    private final List<String> told = new ArrayList<>();
    private final int objects;
    private final int open;
    private final int sets;

    private State(Supplier<JoinBlocks> copies) {
        this.copies = copies;
        objects = copies.get().count(0);
        open = copies.get().count(3);
        sets = copies.get().count(4);
    }

    public static List<String> of(Supplier<JoinBlocks> copies) {
        State state = new State(copies);
        state.tellCounts();
        state.tellObjects();
        state.tellSets();
        state.tellFamilies();
        state.tellOpenBlock();
        return state.told;
    }

    private void tell(String part, Consumer<JoinBlocks> before, List<ToLongFunction<JoinBlocks>> questions) {
        StringBuilder line = new StringBuilder(part);
        JoinBlocks copy = null;
        for (int i = 0; i < questions.size(); i++) {
            if (i % QUESTIONS_PER_COPY == 0) {
                copy = copies.get();
                before.accept(copy);
            }
            line.append(' ').append(questions.get(i).applyAsLong(copy));
        }
        told.add(line.toString());
    }

    private void tellCounts() {
        List<ToLongFunction<JoinBlocks>> questions = new ArrayList<>();
        for (int what = 0; what <= 4; what++) {
            int asked = what;
            questions.add(x -> x.count(asked));
        }
        tell("counts", x -> { }, questions);
    }

    private void tellObjects() {
        List<ToLongFunction<JoinBlocks>> questions = new ArrayList<>();
        for (int i = 0; i < objects; i++) {
            for (int what = 0; what <= 7; what++) {
                int object = i;
                int asked = what;
                questions.add(x -> x.object(object, asked));
            }
        }
        tell("objects", x -> { }, questions);
    }

    private void tellSets() {
        for (int set = 0; set < sets; set++) {
            int popped = set;
            List<ToLongFunction<JoinBlocks>> questions = new ArrayList<>();
            questions.add(x -> x.hit(-1));
            for (int i = 0; i < objects; i++) {
                int asked = i;
                questions.add(x -> x.hit(asked));
                questions.add(x -> x.score(asked));
            }
            tell("set " + set + " from the last", x -> pop(x, popped), questions);
        }
    }

    private static void pop(JoinBlocks x, int times) {
        for (int i = 0; i < times; i++) {
            x.pop();
        }
    }

    private void tellFamilies() {
        List<ToLongFunction<JoinBlocks>> questions = new ArrayList<>();
        for (int i = 0; i < objects; i++) {
            int object = i;
            int members = copies.get().family(i, -1);
            questions.add(x -> x.family(object, -1));
            for (int k = 0; k < members; k++) {
                int asked = k;
                questions.add(x -> x.family(object, asked));
            }
        }
        tell("families", x -> { }, questions);
    }

    /** What is open can be seen only when it is closed, and that needs room. */
    private void tellOpenBlock() {
        List<Integer> keys = livingKeys();
        List<ToLongFunction<JoinBlocks>> questions = new ArrayList<>();
        for (int i = 0; i < open; i++) {
            for (int what = 0; what <= 3; what++) {
                int object = i;
                int asked = what;
                questions.add(x -> x.object(object, asked));
            }
        }
        tell("open block", x -> closeAlone(x, keys), questions);
    }

    private List<Integer> livingKeys() {
        List<Integer> keys = new ArrayList<>();
        for (int i = 0; i < objects; i++) {
            JoinBlocks copy = copies.get();
            if (copy.object(i, 0) == 2 && copy.object(i, 6) == 1) {
                keys.add(copy.object(i, 4));
            }
        }
        return keys;
    }

    private static void closeAlone(JoinBlocks x, List<Integer> keys) {
        for (int key : keys) {
            x.kill(key);
        }
        x.merge();
        x.close(0, 0, 0, -1);
    }
}
