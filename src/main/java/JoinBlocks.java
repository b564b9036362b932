/** Objects in blocks, children ahead of their parents, and a stack of scored sets of them. */
public final class JoinBlocks {
    public static final long NOTHING = Long.MIN_VALUE;

    private static final int NO_SUCH = -1;
    private static final int OUT_OF_BOUNDS = -2;
    private static final int AS_TOLD = -3;
    private static final int NO_ROOM = -4;

    private static final int MOST_OBJECTS = 200;
    private static final int MOST_OPEN = 60;
    private static final int MOST_SETS = 8;
    private static final int MOST_VALUE = 1000;
    private static final int MOST_TAGS = 255;
    private static final int MOST_KEY = 999;

    private static final int NONE = -1;
    private static final int HOW_MANY_THERE_ARE = -1;
    private static final int ROOT_LEVEL = 2;

    private static final int BOTH = 0;
    private static final int EITHER = 1;
    private static final int WITHOUT = 2;

    private static final int GREATEST = 1;
    private static final int LEAST = 2;
    private static final int HOW_MANY = 3;
    private static final int MEAN = 4;

    private final Row open;
    private final Row row;
    private final ScoredSet[] stack;
    private final ScoredSet taken;
    private final ScoredSet kin;
    private final Ranking ranking;
    private int depth;
    private boolean wentUp;

    public JoinBlocks() {
        open = new Row(MOST_OPEN);
        row = new Row(MOST_OBJECTS);
        stack = new ScoredSet[MOST_SETS];
        for (int i = 0; i < MOST_SETS; i++) {
            stack[i] = new ScoredSet();
        }
        taken = new ScoredSet();
        kin = new ScoredSet();
        ranking = new Ranking();
        depth = 0;
        wentUp = false;
    }

    // ---- blocks

    public int child(int level, int value, int tags, int link) {
        if (!isWithin(level, 0, ROOT_LEVEL - 1) || !areTold(value, tags, link)) {
            return OUT_OF_BOUNDS;
        }
        if (open.size >= MOST_OPEN) {
            return NO_ROOM;
        }
        open.append(level, value, tags, link, NONE);
        return open.size;
    }

    public int close(int key, int value, int tags, int link) {
        if (!isKey(key) || !areTold(value, tags, link)) {
            return OUT_OF_BOUNDS;
        }
        if (row.size + open.size + 1 > MOST_OBJECTS) {
            return NO_ROOM;
        }
        int older = row.livingRoot(key);
        if (older != NONE) {
            row.killBlock(older);
            forgetSets();
        }
        row.appendAll(open);
        row.append(ROOT_LEVEL, value, tags, link, key);
        open.size = 0;
        return row.size - 1;
    }

    public int drop() {
        int had = open.size;
        open.size = 0;
        return had;
    }

    public int kill(int key) {
        int dying = row.livingRoot(key);
        if (dying == NONE) {
            return NO_SUCH;
        }
        forgetSets();
        return row.killBlock(dying);
    }

    public int merge() {
        row.keepLiving();
        forgetSets();
        return row.size;
    }

    public int object(int i, int what) {
        if (!row.holds(i)) {
            return NO_SUCH;
        }
        switch (what) {
            case 0:
                return row.levels[i];
            case 1:
                return row.values[i];
            case 2:
                return row.tags[i];
            case 3:
                return row.links[i];
            case 4:
                return row.isRoot(i) ? row.keys[i] : AS_TOLD;
            case 5:
                return row.isRoot(i) ? AS_TOLD : row.parentOf(i);
            case 6:
                return row.living[i] ? 1 : 0;
            case 7:
                return i - row.firstBelow(i);
            default:
                return OUT_OF_BOUNDS;
        }
    }

    public int count(int what) {
        switch (what) {
            case 0:
                return row.size;
            case 1:
                return row.countLiving(0);
            case 2:
                return row.countLiving(ROOT_LEVEL);
            case 3:
                return open.size;
            case 4:
                return depth;
            default:
                return OUT_OF_BOUNDS;
        }
    }

    public int root(int key) {
        int found = row.livingRoot(key);
        return found == NONE ? NO_SUCH : found;
    }

    // ---- sets

    public int find(int kind, int a, int b) {
        if (!canBeFound(kind, a, b)) {
            return OUT_OF_BOUNDS;
        }
        if (depth >= MOST_SETS) {
            return NO_ROOM;
        }
        ScoredSet found = stack[depth];
        found.clear();
        for (int i = 0; i < row.size; i++) {
            if (row.living[i] && isFound(i, kind, a, b)) {
                found.put(i, scoreFound(i, kind, a));
            }
        }
        depth++;
        return found.size;
    }

    public int join(int how) {
        if (!isWithin(how, BOTH, WITHOUT)) {
            return OUT_OF_BOUNDS;
        }
        if (depth < 2) {
            return AS_TOLD;
        }
        ScoredSet before = stack[depth - 2];
        ScoredSet last = stack[depth - 1];
        switch (how) {
            case BOTH:
                before.keepCommon(last);
                break;
            case EITHER:
                before.addAll(last);
                break;
            default:
                before.removeAll(last);
                break;
        }
        depth--;
        return before.size;
    }

    public int up(int level, int rule) {
        if (!isWithin(level, 1, ROOT_LEVEL) || !isWithin(rule, 0, MEAN)) {
            return OUT_OF_BOUNDS;
        }
        if (depth < 1) {
            return AS_TOLD;
        }
        ScoredSet last = stack[depth - 1];
        last.moveTo(kin);
        wentUp = true;
        for (int i = 0; i < row.size; i++) {
            if (row.levels[i] == level) {
                gatherBelow(i, rule, last);
            }
        }
        return last.size;
    }

    public int down(int level) {
        if (!isWithin(level, 0, ROOT_LEVEL - 1)) {
            return OUT_OF_BOUNDS;
        }
        if (depth < 1) {
            return AS_TOLD;
        }
        ScoredSet last = stack[depth - 1];
        last.moveTo(taken);
        for (int i = 0; i < row.size; i++) {
            if (taken.has(i)) {
                spreadBelow(i, level, last);
            }
        }
        return last.size;
    }

    public int over() {
        if (depth < 1) {
            return AS_TOLD;
        }
        ScoredSet last = stack[depth - 1];
        last.moveTo(taken);
        for (int i = 0; i < row.size; i++) {
            if (taken.has(i) && row.isRoot(i)) {
                spreadToLinked(i, last);
            }
        }
        return last.size;
    }

    public int again() {
        if (depth < 1) {
            return AS_TOLD;
        }
        if (depth >= MOST_SETS) {
            return NO_ROOM;
        }
        ScoredSet copy = stack[depth];
        copy.clear();
        copy.addAll(stack[depth - 1]);
        depth++;
        return depth;
    }

    public int pop() {
        if (depth < 1) {
            return AS_TOLD;
        }
        depth--;
        return depth;
    }

    public int hit(int i) {
        if (depth < 1) {
            return AS_TOLD;
        }
        ranking.rank(stack[depth - 1], 0, row.size);
        return answerRanked(i);
    }

    public long score(int object) {
        if (depth < 1) {
            return NOTHING;
        }
        ScoredSet last = stack[depth - 1];
        return last.has(object) ? last.scores[object] : NOTHING;
    }

    public int family(int object, int k) {
        if (!wentUp || !row.holds(object)) {
            return NO_SUCH;
        }
        ranking.rank(kin, row.firstBelow(object), object);
        return answerRanked(k);
    }

    public long share() throws ArithmeticException {
        if (depth < 2) {
            return NOTHING;
        }
        int whole = stack[depth - 2].size;
        if (whole == 0) {
            throw new ArithmeticException("the set before the last one has no objects");
        }
        return 1000L * stack[depth - 1].size / whole;
    }

    // ---- bounds

    private static boolean isWithin(int number, int least, int most) {
        return number >= least && number <= most;
    }

    private static boolean isKey(int number) {
        return isWithin(number, 0, MOST_KEY);
    }

    private static boolean isValue(int number) {
        return isWithin(number, -MOST_VALUE, MOST_VALUE);
    }

    private static boolean areTold(int value, int tags, int link) {
        return isValue(value) && isWithin(tags, 0, MOST_TAGS) && isWithin(link, NONE, MOST_KEY);
    }

    // ---- parts of the calls

    private void forgetSets() {
        depth = 0;
        wentUp = false;
    }

    private static boolean canBeFound(int kind, int a, int b) {
        switch (kind) {
            case 0:
                return true;
            case 1:
                return isWithin(a, 0, MOST_TAGS);
            case 2:
                return isValue(a) && isValue(b);
            case 3:
                return isWithin(a, 0, ROOT_LEVEL);
            case 4:
            case 5:
                return isKey(a);
            default:
                return false;
        }
    }

    private boolean isFound(int i, int kind, int a, int b) {
        switch (kind) {
            case 1:
                return (row.tags[i] & a) == a;
            case 2:
                return isWithin(row.values[i], a, b);
            case 3:
                return row.levels[i] == a;
            case 4:
                return row.isRoot(i) && row.keys[i] == a;
            case 5:
                return row.links[i] == a;
            default:
                return true;
        }
    }

    private long scoreFound(int i, int kind, int a) {
        switch (kind) {
            case 1:
                return Integer.bitCount(a);
            case 2:
                return row.values[i];
            case 4:
            case 5:
                return 1;
            default:
                return 0;
        }
    }

    private void gatherBelow(int upper, int rule, ScoredSet led) {
        int gathered = 0;
        long sofar = 0;
        for (int i = row.firstBelow(upper); i < upper; i++) {
            if (kin.has(i)) {
                long more = rule == HOW_MANY ? 1 : kin.scores[i];
                sofar = gathered == 0 ? more : combine(rule, sofar, more);
                gathered++;
            }
        }
        if (gathered > 0) {
            led.put(upper, rule == MEAN ? sofar / gathered : sofar);
        }
    }

    private static long combine(int rule, long sofar, long more) {
        switch (rule) {
            case GREATEST:
                return Math.max(sofar, more);
            case LEAST:
                return Math.min(sofar, more);
            default:
                return sofar + more;
        }
    }

    // Whether they live is not asked: a block dies as a whole, and the one above them lives.
    private void spreadBelow(int upper, int level, ScoredSet led) {
        for (int i = row.firstBelow(upper); i < upper; i++) {
            if (row.levels[i] == level) {
                led.add(i, taken.scores[upper]);
            }
        }
    }

    private void spreadToLinked(int root, ScoredSet led) {
        for (int i = 0; i < row.size; i++) {
            if (row.living[i] && row.links[i] == row.keys[root]) {
                led.put(i, taken.scores[root]);
            }
        }
    }

    private int answerRanked(int place) {
        if (place == HOW_MANY_THERE_ARE) {
            return ranking.size;
        }
        return place >= 0 && place < ranking.size ? ranking.numbers[place] : NO_SUCH;
    }

    /** Objects side by side; those below an object are the run of lesser levels just ahead of it. */
    private static final class Row {
        final int[] levels;
        final int[] values;
        final int[] tags;
        final int[] links;
        final int[] keys;
        final boolean[] living;
        int size;

        Row(int most) {
            levels = new int[most];
            values = new int[most];
            tags = new int[most];
            links = new int[most];
            keys = new int[most];
            living = new boolean[most];
            size = 0;
        }

        boolean holds(int i) {
            return i >= 0 && i < size;
        }

        boolean isRoot(int i) {
            return levels[i] == ROOT_LEVEL;
        }

        void append(int level, int value, int tagBits, int link, int key) {
            levels[size] = level;
            values[size] = value;
            tags[size] = tagBits;
            links[size] = link;
            keys[size] = key;
            living[size] = true;
            size++;
        }

        void appendFrom(Row other, int i) {
            append(other.levels[i], other.values[i], other.tags[i], other.links[i], other.keys[i]);
        }

        void appendAll(Row other) {
            for (int i = 0; i < other.size; i++) {
                appendFrom(other, i);
            }
        }

        // The row is written over from its start: what is read never stands ahead of what is written.
        void keepLiving() {
            int had = size;
            size = 0;
            for (int i = 0; i < had; i++) {
                if (living[i]) {
                    appendFrom(this, i);
                }
            }
        }

        int livingRoot(int key) {
            for (int i = 0; i < size; i++) {
                if (living[i] && isRoot(i) && keys[i] == key) {
                    return i;
                }
            }
            return NONE;
        }

        int killBlock(int root) {
            int first = firstBelow(root);
            for (int i = first; i <= root; i++) {
                living[i] = false;
            }
            return root - first + 1;
        }

        int countLiving(int leastLevel) {
            int counted = 0;
            for (int i = 0; i < size; i++) {
                if (living[i] && levels[i] >= leastLevel) {
                    counted++;
                }
            }
            return counted;
        }

        int parentOf(int i) {
            for (int j = i + 1; j < size; j++) {
                if (levels[j] > levels[i]) {
                    return j;
                }
            }
            return NONE;
        }

        int firstBelow(int upper) {
            int first = upper;
            while (first > 0 && levels[first - 1] < levels[upper]) {
                first--;
            }
            return first;
        }
    }

    /** Which objects a set has, each with its score. */
    private static final class ScoredSet {
        final boolean[] members;
        final long[] scores;
        int size;

        ScoredSet() {
            members = new boolean[MOST_OBJECTS];
            scores = new long[MOST_OBJECTS];
            size = 0;
        }

        boolean has(int i) {
            return i >= 0 && i < MOST_OBJECTS && members[i];
        }

        void clear() {
            for (int i = 0; i < MOST_OBJECTS; i++) {
                members[i] = false;
            }
            size = 0;
        }

        void put(int i, long score) {
            if (!members[i]) {
                members[i] = true;
                size++;
            }
            scores[i] = score;
        }

        void add(int i, long more) {
            put(i, members[i] ? scores[i] + more : more);
        }

        void remove(int i) {
            if (members[i]) {
                members[i] = false;
                size--;
            }
        }

        void addAll(ScoredSet other) {
            for (int i = 0; i < MOST_OBJECTS; i++) {
                if (other.members[i]) {
                    add(i, other.scores[i]);
                }
            }
        }

        void removeAll(ScoredSet other) {
            for (int i = 0; i < MOST_OBJECTS; i++) {
                if (other.members[i]) {
                    remove(i);
                }
            }
        }

        void keepCommon(ScoredSet other) {
            for (int i = 0; i < MOST_OBJECTS; i++) {
                if (!other.members[i]) {
                    remove(i);
                } else if (members[i]) {
                    add(i, other.scores[i]);
                }
            }
        }

        void moveTo(ScoredSet other) {
            other.clear();
            other.addAll(this);
            clear();
        }
    }

    /** Numbers of a set's objects, the greatest score first; rows made once and used by every call. */
    private static final class Ranking {
        final int[] numbers;
        final int[] merged;
        int size;

        Ranking() {
            numbers = new int[MOST_OBJECTS];
            merged = new int[MOST_OBJECTS];
            size = 0;
        }

        void rank(ScoredSet set, int first, int end) {
            size = 0;
            for (int i = first; i < end; i++) {
                if (set.has(i)) {
                    numbers[size] = i;
                    size++;
                }
            }
            for (int width = 1; width < size; width *= 2) {
                mergeRuns(set, width);
            }
        }

        private void mergeRuns(ScoredSet set, int width) {
            for (int start = 0; start < size; start += 2 * width) {
                int middle = Math.min(start + width, size);
                int end = Math.min(start + 2 * width, size);
                mergeTwo(set, start, middle, end);
            }
            System.arraycopy(merged, 0, numbers, 0, size);
        }

        // Of like scores the left run's goes first: it has the lesser numbers.
        private void mergeTwo(ScoredSet set, int start, int middle, int end) {
            int left = start;
            int right = middle;
            for (int to = start; to < end; to++) {
                boolean takesLeft = right >= end
                        || left < middle && set.scores[numbers[left]] >= set.scores[numbers[right]];
                merged[to] = takesLeft ? numbers[left] : numbers[right];
                if (takesLeft) {
                    left++;
                } else {
                    right++;
                }
            }
        }
    }
}
