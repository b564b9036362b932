import java.util.ArrayList;
import java.util.Comparator;
import java.util.List;
import java.util.Map;
import java.util.Random;
import java.util.TreeMap;
import java.util.function.LongBinaryOperator;

/**
 * Long mixed runs against a model that says the document's Terms word by word and shares no way of
 * working with the class: parents are searched anew, sets are maps that are never changed.
 */
public final class ModelRuns {
    private static final int RUNS = 1500;
    private static final int CALLS = 512;
    private static final long NOTHING = Long.MIN_VALUE;
    private static final long THROWN = Long.MIN_VALUE + 77;

    private record Thing(int level, int value, int tags, int link, int key) { }

    private static final class Model {
        List<Thing> open = new ArrayList<>();
        List<Thing> things = new ArrayList<>();
        List<Boolean> lives = new ArrayList<>();
        List<TreeMap<Integer, Long>> stack = new ArrayList<>();
        TreeMap<Integer, Long> upFrom = null;

        static boolean out(int n, int least, int most) {
            return n < least || n > most;
        }

        static boolean faulty(int value, int tags, int link) {
            return out(value, -1000, 1000) || out(tags, 0, 255) || out(link, -1, 999);
        }

        int parent(int i) {
            for (int j = i + 1; j < things.size(); j++) {
                if (things.get(j).level > things.get(i).level) {
                    return j;
                }
            }
            return -1;
        }

        boolean above(int upper, int lower) {
            for (int p = parentInBlock(lower); p >= 0; p = parentInBlock(p)) {
                if (p == upper) {
                    return true;
                }
            }
            return false;
        }

        int parentInBlock(int i) {
            return things.get(i).level == 2 ? -1 : parent(i);
        }

        int rootOf(int i) {
            int at = i;
            while (things.get(at).level < 2) {
                at = parent(at);
            }
            return at;
        }

        int root(int key) {
            for (int i = 0; i < things.size(); i++) {
                if (lives.get(i) && things.get(i).level == 2 && things.get(i).key == key) {
                    return i;
                }
            }
            return -1;
        }

        int kill(int key) {
            int root = root(key);
            if (root < 0) {
                return -1;
            }
            int died = 0;
            for (int i = 0; i < things.size(); i++) {
                if (rootOf(i) == root) {
                    lives.set(i, false);
                    died++;
                }
            }
            stack.clear();
            upFrom = null;
            return died;
        }

        int child(int level, int value, int tags, int link) {
            if (out(level, 0, 1) || faulty(value, tags, link)) {
                return -2;
            }
            if (open.size() == 60) {
                return -4;
            }
            open.add(new Thing(level, value, tags, link, -3));
            return open.size();
        }

        int close(int key, int value, int tags, int link) {
            if (out(key, 0, 999) || faulty(value, tags, link)) {
                return -2;
            }
            if (things.size() + open.size() + 1 > 200) {
                return -4;
            }
            kill(key);
            open.add(new Thing(2, value, tags, link, key));
            for (Thing t : open) {
                things.add(t);
                lives.add(true);
            }
            open.clear();
            return things.size() - 1;
        }

        int drop() {
            int had = open.size();
            open.clear();
            return had;
        }

        int merge() {
            for (int i = things.size() - 1; i >= 0; i--) {
                if (!lives.get(i)) {
                    things.remove(i);
                    lives.remove(i);
                }
            }
            stack.clear();
            upFrom = null;
            return things.size();
        }

        int object(int i, int what) {
            if (out(i, 0, things.size() - 1)) {
                return -1;
            }
            if (out(what, 0, 7)) {
                return -2;
            }
            Thing t = things.get(i);
            int below = 0;
            for (int j = 0; j < things.size(); j++) {
                below += above(i, j) ? 1 : 0;
            }
            int[] told = {t.level, t.value, t.tags, t.link, t.key, t.level == 2 ? -3 : parent(i),
                lives.get(i) ? 1 : 0, below};
            return told[what];
        }

        int count(int what) {
            if (out(what, 0, 4)) {
                return -2;
            }
            int living = 0;
            int roots = 0;
            for (int i = 0; i < things.size(); i++) {
                living += lives.get(i) ? 1 : 0;
                roots += lives.get(i) && things.get(i).level == 2 ? 1 : 0;
            }
            return new int[] {things.size(), living, roots, open.size(), stack.size()}[what];
        }

        int find(int kind, int a, int b) {
            if (out(kind, 0, 5) || kind == 1 && out(a, 0, 255)
                    || kind == 2 && (out(a, -1000, 1000) || out(b, -1000, 1000))
                    || kind == 3 && out(a, 0, 2) || kind >= 4 && out(a, 0, 999)) {
                return -2;
            }
            if (stack.size() == 8) {
                return -4;
            }
            TreeMap<Integer, Long> set = new TreeMap<>();
            for (int i = 0; i < things.size(); i++) {
                Thing t = things.get(i);
                boolean[] found = {true, (a & ~t.tags) == 0, t.value >= a && t.value <= b, t.level == a,
                    t.key == a, t.link == a};
                long[] scores = {0, Integer.bitCount(a), t.value, 0, 1, 1};
                if (lives.get(i) && found[kind]) {
                    set.put(i, scores[kind]);
                }
            }
            return lay(set);
        }

        int lay(TreeMap<Integer, Long> set) {
            stack.add(set);
            return set.size();
        }

        TreeMap<Integer, Long> take() {
            return stack.remove(stack.size() - 1);
        }

        int join(int how) {
            if (out(how, 0, 2)) {
                return -2;
            }
            if (stack.size() < 2) {
                return -3;
            }
            TreeMap<Integer, Long> last = take();
            TreeMap<Integer, Long> before = take();
            TreeMap<Integer, Long> set = new TreeMap<>();
            for (int i = 0; i < things.size(); i++) {
                boolean inLast = last.containsKey(i);
                boolean inBefore = before.containsKey(i);
                boolean[] in = {inLast && inBefore, inLast || inBefore, inBefore && !inLast};
                if (in[how]) {
                    set.put(i, last.getOrDefault(i, 0L) + before.getOrDefault(i, 0L));
                }
            }
            return lay(set);
        }

        int up(int level, int rule) {
            if (out(level, 1, 2) || out(rule, 0, 4)) {
                return -2;
            }
            if (stack.isEmpty()) {
                return -3;
            }
            upFrom = take();
            TreeMap<Integer, Long> set = new TreeMap<>();
            for (int i = 0; i < things.size(); i++) {
                List<Long> scores = new ArrayList<>();
                for (Map.Entry<Integer, Long> e : upFrom.entrySet()) {
                    if (things.get(i).level == level && above(i, e.getKey())) {
                        scores.add(e.getValue());
                    }
                }
                if (!scores.isEmpty()) {
                    set.put(i, byRule(rule, scores));
                }
            }
            return lay(set);
        }

        static long byRule(int rule, List<Long> scores) {
            LongBinaryOperator[] ways = {Long::sum, Math::max, Math::min, Long::sum, Long::sum};
            long all = scores.stream().mapToLong(Long::longValue).reduce(ways[rule]).getAsLong();
            return rule == 3 ? scores.size() : rule == 4 ? all / scores.size() : all;
        }

        int down(int level) {
            if (out(level, 0, 1)) {
                return -2;
            }
            if (stack.isEmpty()) {
                return -3;
            }
            TreeMap<Integer, Long> from = take();
            TreeMap<Integer, Long> set = new TreeMap<>();
            for (int i = 0; i < things.size(); i++) {
                for (Map.Entry<Integer, Long> e : from.entrySet()) {
                    if (lives.get(i) && things.get(i).level == level && above(e.getKey(), i)) {
                        set.merge(i, e.getValue(), Long::sum);
                    }
                }
            }
            return lay(set);
        }

        int over() {
            if (stack.isEmpty()) {
                return -3;
            }
            TreeMap<Integer, Long> from = take();
            TreeMap<Integer, Long> set = new TreeMap<>();
            for (int i = 0; i < things.size(); i++) {
                int root = root(things.get(i).link);
                if (lives.get(i) && root >= 0 && from.containsKey(root)) {
                    set.put(i, from.get(root));
                }
            }
            return lay(set);
        }

        int again() {
            if (stack.isEmpty()) {
                return -3;
            }
            if (stack.size() == 8) {
                return -4;
            }
            lay(stack.get(stack.size() - 1));
            return stack.size();
        }

        int pop() {
            if (stack.isEmpty()) {
                return -3;
            }
            take();
            return stack.size();
        }

        static int ranked(TreeMap<Integer, Long> set, int k) {
            List<Integer> numbers = new ArrayList<>(set.keySet());
            numbers.sort(Comparator.comparing((Integer i) -> set.get(i)).reversed().thenComparing(i -> i));
            return k == -1 ? numbers.size() : out(k, 0, numbers.size() - 1) ? -1 : numbers.get(k);
        }

        int hit(int i) {
            return stack.isEmpty() ? -3 : ranked(stack.get(stack.size() - 1), i);
        }

        long score(int object) {
            return stack.isEmpty() ? NOTHING : stack.get(stack.size() - 1).getOrDefault(object, NOTHING);
        }

        int family(int object, int k) {
            if (upFrom == null || out(object, 0, things.size() - 1)) {
                return -1;
            }
            TreeMap<Integer, Long> below = new TreeMap<>(upFrom);
            below.keySet().removeIf(i -> !above(object, i));
            return ranked(below, k);
        }

        long share() {
            if (stack.size() < 2) {
                return NOTHING;
            }
            int before = stack.get(stack.size() - 2).size();
            return before == 0 ? THROWN : 1000 * stack.get(stack.size() - 1).size() / before;
        }
    }

    private final Random random;
    private final Model model = new Model();
    private final JoinBlocks real = new JoinBlocks();
    private final int keys;
    private final int blockCalls;
    private final StringBuilder told = new StringBuilder();

    private ModelRuns(int seed) {
        random = new Random(seed);
        keys = new int[] {3, 12, 1000}[seed % 3];
        blockCalls = new int[] {8, 14, 18}[seed / 3 % 3];
    }

    /** A number within the bounds, now and then just outside them or far away. */
    private int number(int least, int most) {
        switch (random.nextInt(60)) {
            case 0:
                return least - 1;
            case 1:
                return most + 1;
            case 2:
                return random.nextInt();
            case 3:
                return least;
            case 4:
                return most;
            default:
                return least + random.nextInt(Math.max(1, most - least + 1));
        }
    }

    private int key() {
        return random.nextInt(40) == 0 ? number(0, 999) : random.nextInt(keys);
    }

    private int link() {
        return random.nextInt(4) == 0 ? -1 : random.nextInt(40) == 0 ? number(-1, 999) : random.nextInt(keys);
    }

    private int value() {
        return random.nextBoolean() ? number(-1000, 1000) : number(-5, 5);
    }

    private int tags() {
        return random.nextBoolean() ? number(0, 255) : 1 << random.nextInt(8);
    }

    private int thing() {
        return number(0, Math.max(0, model.things.size() - 1));
    }

    private boolean same(String call, long got, long want) {
        told.append(call).append(" = ").append(want).append('\n');
        if (got != want) {
            System.out.println(told);
            System.out.println(call + " answered " + got + ", due is " + want);
        }
        return got == want;
    }

    private boolean blockCall() {
        int a = value();
        int b = tags();
        int c = link();
        int key = key();
        int what = number(0, 7);
        int some = thing();
        int which = random.nextInt(40);
        if (which < 20) {
            int level = number(0, 1);
            return same("child(" + level + ", " + a + ", " + b + ", " + c + ")",
                    real.child(level, a, b, c), model.child(level, a, b, c));
        }
        if (which < 28) {
            return same("close(" + key + ", " + a + ", " + b + ", " + c + ")",
                    real.close(key, a, b, c), model.close(key, a, b, c));
        }
        if (which == 28 && random.nextInt(3) == 0) {
            return same("drop()", real.drop(), model.drop());
        }
        if (which == 29) {
            return same("kill(" + key + ")", real.kill(key), model.kill(key));
        }
        if (which == 30 && random.nextInt(2) == 0) {
            return same("merge()", real.merge(), model.merge());
        }
        if (which < 36) {
            return same("object(" + some + ", " + what + ")", real.object(some, what), model.object(some, what));
        }
        if (which < 39) {
            return same("count(" + what + ")", real.count(what), model.count(what));
        }
        return same("root(" + key + ")", real.root(key), model.root(key));
    }

    private boolean find() {
        int kind = number(0, 5);
        int a = kind == 1 ? tags() : kind == 2 ? value() : kind == 3 ? number(0, 2) : key();
        int b = value();
        return same("find(" + kind + ", " + a + ", " + b + ")", real.find(kind, a, b), model.find(kind, a, b));
    }

    private long realShare() {
        try {
            return real.share();
        } catch (ArithmeticException e) {
            return THROWN;
        }
    }

    private boolean setCall() {
        int some = thing();
        int place = random.nextBoolean() ? number(-1, 5) : number(-1, 200);
        int which = random.nextInt(44);
        if (which < 10) {
            return find();
        }
        if (which < 14) {
            int how = number(0, 2);
            return same("join(" + how + ")", real.join(how), model.join(how));
        }
        if (which < 19) {
            int level = number(1, 2);
            int rule = number(0, 4);
            return same("up(" + level + ", " + rule + ")", real.up(level, rule), model.up(level, rule));
        }
        if (which < 22) {
            int level = number(0, 1);
            return same("down(" + level + ")", real.down(level), model.down(level));
        }
        if (which < 24) {
            return same("over()", real.over(), model.over());
        }
        if (which < 26) {
            return same("again()", real.again(), model.again());
        }
        if (which < 28) {
            return same("pop()", real.pop(), model.pop());
        }
        if (which < 33) {
            return same("hit(" + place + ")", real.hit(place), model.hit(place));
        }
        if (which < 38) {
            return same("score(" + some + ")", real.score(some), model.score(some));
        }
        if (which < 42) {
            int k = random.nextBoolean() ? -1 : place;
            return same("family(" + some + ", " + k + ")", real.family(some, k), model.family(some, k));
        }
        return same("share()", realShare(), model.share());
    }

    private boolean doubling() {
        return same("again()", real.again(), model.again()) && same("join(1)", real.join(1), model.join(1));
    }

    /** Questions about the state that is left: what a call may have spoilt shows here. */
    private boolean question() {
        int some = thing();
        switch (random.nextInt(4)) {
            case 0:
                int what = number(0, 7);
                return same("object(" + some + ", " + what + ")", real.object(some, what), model.object(some, what));
            case 1:
                return same("hit(" + some + ")", real.hit(some), model.hit(some));
            case 2:
                return same("score(" + some + ")", real.score(some), model.score(some));
            default:
                int k = number(-1, 3);
                return same("family(" + some + ", " + k + ")", real.family(some, k), model.family(some, k));
        }
    }

    private boolean run() {
        boolean wraps = random.nextInt(4) == 0;
        int calls = 0;
        while (calls < CALLS - 1) {
            boolean early = calls < CALLS / 2;
            boolean right;
            if (calls > CALLS - 80) {
                right = question();
                calls++;
            } else if (wraps && !early && random.nextInt(3) > 0) {
                right = doubling();
                calls += 2;
            } else {
                right = random.nextInt(20) < (early ? blockCalls : blockCalls / 4) ? blockCall() : setCall();
                calls++;
            }
            if (!right) {
                return false;
            }
        }
        return true;
    }

    public static void main(String[] args) {
        for (int seed = 0; seed < RUNS; seed++) {
            if (!new ModelRuns(seed).run()) {
                System.out.println("the run of seed " + seed + " is not as due");
                System.exit(1);
            }
        }
        System.out.println(RUNS + " runs are as the model's");
    }
}
