import java.util.function.ToLongFunction;

/** The sentences of promises 10 to 20 that name a boundary case. */
public final class SetSentences {
    private static final long NOTHING = JoinBlocks.NOTHING;
    private static final int[] FAR = {Integer.MIN_VALUE, -1001, -2, -1, 1000, 1001, Integer.MAX_VALUE};

    private SetSentences() {
    }

    private static JoinBlocks oneSet() {
        JoinBlocks x = Scenes.blocks();
        x.find(2, -1000, 1000);
        return x;
    }

    @Sentence(promise = 10, says = "A SET, FOUND by a KIND, comes onto THE STACK: how many objects it has")
    private static void promise10HowManyObjects() {
        JoinBlocks x = Scenes.blocks();
        Check.due("all", x.find(0, 0, 0), 11);
        Check.due("one SET", x.count(4), 1);
        Check.due("none", x.find(2, 1, 0), 0);
        Check.due("two SETS", x.count(4), 2);
        Check.due("one", x.find(4, 30, 0), 1);
        Check.due("three SETS", x.count(4), 3);
        Check.dueSet(x, "the last", 10, 1);
        x.pop();
        Check.dueSet(x, "the one before it");
        x.pop();
        Check.due("the first", x.hit(-1), 11);
        Check.due("of no objects", new JoinBlocks().find(0, 0, 0), 0);
        Check.due("of 200", Scenes.roots(200).find(2, 1, 1), 200);
        Check.due("open ones are in none", rootAndOpenOnes().find(0, 0, 0), 1);
    }

    private static JoinBlocks rootAndOpenOnes() {
        JoinBlocks x = Scenes.roots(1);
        Scenes.openOnes(x, 60);
        return x;
    }

    /** A SET that is popped leaves nothing to the next one in its place. */
    @Sentence(promise = 10, says = "A SET, FOUND by a KIND, comes onto THE STACK")
    private static void promise10InThePlaceOfAnother() {
        JoinBlocks x = Scenes.blocks();
        x.find(2, -1000, 1000);
        x.pop();
        x.find(4, 30, 0);
        Check.dueSet(x, "in the place of another", 10, 1);
        x.find(0, 0, 0);
        x.kill(10);
        x.find(2, 0, 9);
        Check.dueSet(x, "in the place of one that kill took", 10, 0);
    }

    @Sentence(promise = 10, says = "-2 KIND")
    private static void promise10Kind() {
        Check.due("KIND 0", Scenes.busy().find(0, 0, 0), 11);
        Check.due("KIND 5", Scenes.busy().find(5, 0, 0), 0);
        Check.outside(Scenes::busy, (x, kind) -> x.find(kind, 0, 0), 0, 5, -2);
    }

    @Sentence(promise = 10, says = "-2 KIND, a, b (TAGS")
    private static void promise10Tags() {
        Check.due("TAGS 0", Scenes.busy().find(1, 0, 0), 11);
        Check.due("TAGS 255", Scenes.busy().find(1, 255, 0), 1);
        Check.outside(Scenes::busy, (x, tags) -> x.find(1, tags, 0), 0, 255, -2);
    }

    @Sentence(promise = 10, says = "-2 KIND, a, b (TAGS, VALUES")
    private static void promise10ValueA() {
        Check.due("a the least", Scenes.busy().find(2, -1000, 1000), 11);
        Check.due("a the greatest", Scenes.busy().find(2, 1000, 1000), 1);
        Check.outside(Scenes::busy, (x, a) -> x.find(2, a, 0), -1000, 1000, -2);
        Check.outside(Scenes::busy, (x, a) -> x.find(2, a, 1000), -1000, 1000, -2);
    }

    @Sentence(promise = 10, says = "-2 KIND, a, b (TAGS, VALUES")
    private static void promise10ValueB() {
        Check.due("b the least", Scenes.busy().find(2, -1000, -1000), 1);
        Check.due("b the greatest", Scenes.busy().find(2, 10, 1000), 1);
        Check.outside(Scenes::busy, (x, b) -> x.find(2, 0, b), -1000, 1000, -2);
        Check.outside(Scenes::busy, (x, b) -> x.find(2, -1000, b), -1000, 1000, -2);
    }

    @Sentence(promise = 10, says = "LEVEL 0 to 2")
    private static void promise10Level() {
        Check.due("LEVEL 0", Scenes.busy().find(3, 0, 0), 5);
        Check.due("LEVEL 2", Scenes.busy().find(3, 2, 0), 3);
        Check.outside(Scenes::busy, (x, level) -> x.find(3, level, 0), 0, 2, -2);
    }

    @Sentence(promise = 10, says = "KEY")
    private static void promise10Key() {
        Check.due("KEY 0", Scenes.roots(1).find(4, 0, 0), 1);
        JoinBlocks x = new JoinBlocks();
        x.close(999, 0, 0, -1);
        Check.due("KEY 999", x.find(4, 999, 0), 1);
        Check.due("a KEY that none has is no fault", x.find(4, 998, 0), 0);
        Check.outside(Scenes::busy, (y, key) -> y.find(4, key, 0), 0, 999, -2);
    }

    @Sentence(promise = 10, says = "LINK 0 to 999")
    private static void promise10Link() {
        JoinBlocks x = new JoinBlocks();
        x.close(0, 0, 0, 0);
        x.close(1, 0, 0, -1);
        Check.due("LINK 0", x.find(5, 0, 0), 1);
        Check.due("LINK 999", Scenes.busy().find(5, 999, 0), 1);
        Check.outside(Scenes::busy, (y, link) -> y.find(5, link, 0), 0, 999, -2);
    }

    @Sentence(promise = 10, says = "a above b is no fault")
    private static void promise10AAboveB() {
        JoinBlocks x = Scenes.blocks();
        Check.due("one above", x.find(2, 5, 4), 0);
        Check.due("as far above as can be", x.find(2, 1000, -1000), 0);
        Check.due("the SETS are there", x.count(4), 2);
        Check.dueSet(x, "none");
    }

    @Sentence(promise = 10, says = "b counts for KIND 2 alone")
    private static void promise10BCountsForKind2Alone() {
        int[][] finds = {{0, 0, 11}, {1, 1, 6}, {3, 1, 3}, {4, 10, 1}, {5, 10, 3}};
        for (int[] find : finds) {
            for (int b : FAR) {
                Check.due("KIND " + find[0] + ", b " + b, Scenes.busy().find(find[0], find[1], b), find[2]);
            }
        }
        for (int a : FAR) {
            Check.due("KIND 0 has no bounds for a, " + a, Scenes.busy().find(0, a, 0), 11);
        }
    }

    @Sentence(promise = 10, says = "-4")
    private static void promise10NoRoom() {
        JoinBlocks x = Scenes.fullStack();
        x.pop();
        Check.due("the 8th SET", x.find(0, 0, 0), 11);
        for (int kind = 0; kind <= 5; kind++) {
            int found = kind;
            Check.refused("a 9th SET, KIND " + kind, Scenes::fullStack, y -> y.find(found, 1, 1), -4);
        }
    }

    @Sentence(promise = 11, says = "BOTH (0), EITHER (1), WITHOUT (2): how many objects")
    private static void promise11HowManyObjects() {
        int[] due = {3, 8, 2};
        for (int how = 0; how < 3; how++) {
            JoinBlocks x = Scenes.blocks();
            x.find(4, 30, 0);
            x.find(2, 0, 9);
            x.find(1, 1, 0);
            Check.due("join(" + how + ")", x.join(how), due[how]);
            Check.due("how many", x.hit(-1), due[how]);
            Check.due("two SETS are left", x.count(4), 2);
            x.pop();
            Check.dueSet(x, "the first SET", 10, 1);
        }
        int[] dueOfNone = {0, 0, 0};
        for (int how = 0; how < 3; how++) {
            JoinBlocks x = Scenes.blocks();
            x.find(2, 1, 0);
            x.find(2, 1, 0);
            Check.due("of two empty SETS, join(" + how + ")", x.join(how), dueOfNone[how]);
            Check.due("an empty SET is one", x.count(4), 1);
        }
        int[] dueOfAll = {200, 200, 0};
        for (int how = 0; how < 3; how++) {
            JoinBlocks x = Scenes.roots(200);
            x.find(0, 0, 0);
            x.find(0, 0, 0);
            Check.due("of 200 and 200, join(" + how + ")", x.join(how), dueOfAll[how]);
        }
    }

    @Sentence(promise = 11, says = "BOTH (0), EITHER (1), WITHOUT (2)")
    private static void promise11ScoresWrap() {
        for (int how = 0; how < 2; how++) {
            JoinBlocks x = new JoinBlocks();
            x.close(1, 1, 0, -1);
            x.find(2, 1, 1);
            Scenes.doubleScores(x, 62);
            x.again();
            Check.due("join(" + how + ")", x.join(how), 1);
            Check.dueSet(x, "a sum that wraps", 0, Long.MIN_VALUE);
            x.again();
            x.join(how);
            Check.dueSet(x, "a sum that wraps to 0", 0, 0);
        }
    }

    @Sentence(promise = 11, says = "-2")
    private static void promise11How() {
        Check.outside(Scenes::busy, (x, how) -> x.join(how), 0, 2, -2);
        Check.outside(Scenes::fullStack, (x, how) -> x.join(how), 0, 2, -2);
        Check.outside(SetSentences::oneSet, (x, how) -> x.join(how), 0, 2, -2);
        Check.outside(Scenes::empty, (x, how) -> x.join(how), 0, 2, -2);
    }

    @Sentence(promise = 11, says = "-3 fewer than two SETS")
    private static void promise11FewerThanTwoSets() {
        for (int how = 0; how < 3; how++) {
            int joined = how;
            Check.refused("no SET, join(" + how + ")", Scenes::blocks, x -> x.join(joined), -3);
            Check.refused("one SET, join(" + how + ")", SetSentences::oneSet, x -> x.join(joined), -3);
            JoinBlocks x = oneSet();
            x.again();
            Check.due("two SETS, join(" + how + ")", x.join(how) >= 0 ? 0 : 1, 0);
        }
    }

    @Sentence(promise = 12, says = "UP: how many")
    private static void promise12HowMany() {
        JoinBlocks x = oneSet();
        Check.due("to LEVEL 2", x.up(2, 0), 2);
        Check.dueSet(x, "to LEVEL 2", 9, 985, 4, 8);
        Check.due("none is ABOVE them", x.up(2, 0), 0);
        Check.due("of none", x.up(1, 0), 0);
        Check.due("one SET", x.count(4), 1);
        Check.due("to LEVEL 1", oneSet().up(1, 4), 2);
        JoinBlocks roots = Scenes.roots(200);
        roots.find(0, 0, 0);
        Check.due("of 200 ROOTS", roots.up(2, 0), 0);
        JoinBlocks pairs = new JoinBlocks();
        for (int key = 0; key < 100; key++) {
            pairs.child(0, key, 0, -1);
            pairs.close(key, 0, 0, -1);
        }
        pairs.find(3, 0, 0);
        Check.due("to 100 ROOTS", pairs.up(2, 3), 100);
        Check.due("the last of them", pairs.score(199), 1);
        Check.due("not the last child", pairs.score(198), NOTHING);
    }

    @Sentence(promise = 12, says = "-2 LEVEL")
    private static void promise12Level() {
        Check.due("LEVEL 1", Scenes.busy().up(1, 0), 1);
        Check.due("LEVEL 2", Scenes.busy().up(2, 0), 2);
        Check.outside(Scenes::busy, (x, level) -> x.up(level, 0), 1, 2, -2);
        Check.outside(Scenes::blocks, (x, level) -> x.up(level, 0), 1, 2, -2);
    }

    @Sentence(promise = 12, says = "-2 LEVEL, RULE")
    private static void promise12Rule() {
        Check.bounds(Scenes::busy, (x, rule) -> x.up(2, rule), 0, 4, 2);
        Check.outside(Scenes::blocks, (x, rule) -> x.up(1, rule), 0, 4, -2);
    }

    @Sentence(promise = 12, says = "-3 no SET")
    private static void promise12NoSet() {
        for (int rule = 0; rule <= 4; rule++) {
            int led = rule;
            Check.refused("to LEVEL 1", Scenes::blocks, x -> x.up(1, led), -3);
            Check.refused("to LEVEL 2", Scenes::blocks, x -> x.up(2, led), -3);
            Check.refused("a FAMILY stays", SetSentences::familyWithoutSets, x -> x.up(2, led), -3);
        }
    }

    private static JoinBlocks familyWithoutSets() {
        JoinBlocks x = oneSet();
        x.up(2, 0);
        x.pop();
        return x;
    }

    @Sentence(promise = 13, says = "DOWN: how many")
    private static void promise13HowMany() {
        JoinBlocks x = oneSet();
        Check.due("to LEVEL 1", x.down(1), 3);
        Check.dueSet(x, "to LEVEL 1", 2, 9, 5, -1000, 8, -1000);
        Check.due("none of LEVEL 1 is BELOW them", x.down(1), 0);
        Check.due("of none", x.down(0), 0);
        Check.due("one SET", x.count(4), 1);
        Check.due("to LEVEL 0", oneSet().down(0), 5);
        JoinBlocks great = new JoinBlocks();
        for (int i = 0; i < 60; i++) {
            great.child(0, 0, 0, -1);
        }
        great.close(1, 0, 0, -1);
        great.find(4, 1, 0);
        Check.due("of the greatest BLOCK", great.down(0), 60);
        Check.due("the first of it", great.score(0), 1);
        Check.due("the last of it", great.score(59), 1);
        Check.due("not the ROOT", great.score(60), NOTHING);
    }

    @Sentence(promise = 13, says = "DOWN: how many")
    private static void promise13TheFamilyStays() {
        JoinBlocks x = Scenes.busy();
        x.down(0);
        Check.dueFamily(x, 4, 0, 1, 2);
        x = oneSet();
        x.down(0);
        Check.due("DOWN is no UP", x.family(4, -1), -1);
    }

    @Sentence(promise = 13, says = "-2")
    private static void promise13Level() {
        Check.due("LEVEL 0", Scenes.busy().down(0), 5);
        Check.due("LEVEL 1", Scenes.busy().down(1), 1);
        Check.outside(Scenes::busy, (x, level) -> x.down(level), 0, 1, -2);
        Check.outside(Scenes::blocks, (x, level) -> x.down(level), 0, 1, -2);
    }

    @Sentence(promise = 13, says = "-3")
    private static void promise13NoSet() {
        Check.refused("to LEVEL 0", Scenes::blocks, x -> x.down(0), -3);
        Check.refused("to LEVEL 1", Scenes::blocks, x -> x.down(1), -3);
    }

    @Sentence(promise = 14, says = "OVER: how many")
    private static void promise14HowMany() {
        JoinBlocks x = oneSet();
        Check.due("six", x.over(), 6);
        Check.due("the ROOT of KEY 10 is among them", x.over(), 3);
        Check.due("one SET", x.count(4), 1);
        x.find(2, 1, 0);
        Check.due("of none", x.over(), 0);
        JoinBlocks linked = new JoinBlocks();
        for (int key = 0; key < 200; key++) {
            linked.close(key, 0, 0, 199);
        }
        linked.find(4, 199, 0);
        Check.due("all 200", linked.over(), 200);
        Check.due("the first", linked.score(0), 1);
        Check.due("itself", linked.score(199), 1);
    }

    @Sentence(promise = 14, says = "OVER: how many")
    private static void promise14ThoseClosedSince() {
        JoinBlocks x = Scenes.blocks();
        x.find(4, 30, 0);
        x.child(1, 6, 6, 30);
        x.close(40, 0, 0, -1);
        Check.due("the SET is older than the LINK", x.over(), 2);
        Check.dueSet(x, "both that tell KEY 30", 7, 1, 11, 1);
    }

    @Sentence(promise = 14, says = "-3")
    private static void promise14NoSet() {
        Check.refused("no SET", Scenes::blocks, x -> x.over(), -3);
        Check.refused("no SET, a FAMILY", SetSentences::familyWithoutSets, x -> x.over(), -3);
    }

    @Sentence(promise = 15, says = "The last SET comes once more: how many SETS")
    private static void promise15OnceMore() {
        JoinBlocks x = Scenes.blocks();
        x.find(4, 30, 0);
        x.find(2, 4, 9);
        for (int sets = 3; sets <= 8; sets++) {
            Check.due("again", x.again(), sets);
            Check.dueSet(x, "SET " + sets, 4, 9, 0, 5, 3, 4);
        }
        x.up(2, 3);
        Check.dueSet(x, "it changes alone", 4, 2);
        for (int sets = 7; sets >= 2; sets--) {
            x.pop();
            Check.dueSet(x, "SET " + sets, 4, 9, 0, 5, 3, 4);
        }
        x.pop();
        Check.dueSet(x, "the first", 10, 1);
        x.find(2, 1, 0);
        Check.due("an empty one", x.again(), 3);
        Check.dueSet(x, "an empty one");
    }

    @Sentence(promise = 15, says = "-3 no SET")
    private static void promise15NoSet() {
        Check.refused("no SET", Scenes::blocks, x -> x.again(), -3);
        Check.refused("no SET, a FAMILY", SetSentences::familyWithoutSets, x -> x.again(), -3);
        Check.due("one SET", oneSet().again(), 2);
    }

    @Sentence(promise = 15, says = "-4")
    private static void promise15NoRoom() {
        JoinBlocks x = Scenes.fullStack();
        x.pop();
        Check.due("the 8th", x.again(), 8);
        Check.refused("a 9th", Scenes::fullStack, y -> y.again(), -4);
    }

    @Sentence(promise = 16, says = "The last SET goes: how many are left")
    private static void promise16HowManyAreLeft() {
        JoinBlocks x = Scenes.blocks();
        for (int value = 1; value <= 8; value++) {
            x.find(2, value, 1000);
        }
        int[] sizes = {5, 5, 4, 4, 3, 2, 2, 2};
        for (int left = 7; left > 0; left--) {
            Check.due("pop", x.pop(), left);
            Check.due("the SET " + left, x.hit(-1), sizes[left - 1]);
        }
        Check.due("the first goes", x.pop(), 0);
        Check.due("no SET", x.hit(-1), -3);
    }

    @Sentence(promise = 16, says = "-3 no SET")
    private static void promise16NoSet() {
        Check.refused("no SET", Scenes::blocks, x -> x.pop(), -3);
        Check.refused("no SET, a FAMILY", SetSentences::familyWithoutSets, x -> x.pop(), -3);
        Check.due("one SET", oneSet().pop(), 0);
    }

    @Sentence(promise = 17, says = "How many HITS (i = -1), HIT i")
    private static void promise17Hits() {
        int[] hits = {8, 4, 0, 3, 2, 10, 5, 1, 7, 6, 9};
        Check.asked("hit(-1)", SetSentences::oneSet, x -> x.hit(-1), 11);
        for (int i = 0; i < hits.length; i++) {
            int place = i;
            Check.asked("hit(" + i + ")", SetSentences::oneSet, x -> x.hit(place), hits[i]);
        }
        JoinBlocks x = Scenes.roots(200);
        x.find(0, 0, 0);
        Check.due("of 200", x.hit(-1), 200);
        Check.due("the first of 200", x.hit(0), 0);
        Check.due("the last of 200", x.hit(199), 199);
        Check.due("behind the last of 200", x.hit(200), -1);
    }

    @Sentence(promise = 17, says = "-3 no SET (first)")
    private static void promise17NoSet() {
        for (int i : new int[] {-2, -1, 0, 200, Integer.MIN_VALUE, Integer.MAX_VALUE}) {
            Check.refused("hit(" + i + ")", Scenes::blocks, x -> x.hit(i), -3);
        }
    }

    @Sentence(promise = 17, says = "-1")
    private static void promise17NoSuchHit() {
        Check.outside(SetSentences::oneSet, (x, i) -> x.hit(i), -1, 10, -1);
        JoinBlocks x = Scenes.blocks();
        x.find(2, 1, 0);
        Check.due("an empty SET has none", x.hit(-1), 0);
        Check.due("its first", x.hit(0), -1);
    }

    @Sentence(promise = 18, says = "SCORE of an object in the last SET")
    private static void promise18Score() {
        long[] scores = {5, -3, 2, 4, 9, -2, -8, -5, 1000, -1000, 0};
        for (int i = 0; i < scores.length; i++) {
            int object = i;
            Check.asked("score(" + i + ")", SetSentences::oneSet, x -> x.score(object), scores[i]);
        }
        JoinBlocks x = oneSet();
        x.find(4, 30, 0);
        Check.due("the last SET, not the one before", x.score(10), 1);
        Check.due("in the one before alone", x.score(8), NOTHING);
        JoinBlocks least = Scenes.roots(1);
        least.find(2, 1, 1);
        Scenes.doubleScores(least, 63);
        Check.due("the least long is a SCORE, too", least.score(0), Long.MIN_VALUE);
        Check.due("its object is in the SET", least.hit(0), 0);
    }

    @Sentence(promise = 18, says = "NOTHING")
    private static void promise18Nothing() {
        Check.outside(Scenes::busy, (x, object) -> x.score(object), 0, 12, NOTHING);
        Check.refused("one that is not in it", Scenes::busy, x -> x.score(9), NOTHING);
        Check.refused("a dead one", Scenes::busy, x -> x.score(12), NOTHING);
        Check.refused("no SET", Scenes::blocks, x -> x.score(0), NOTHING);
        Check.refused("no SET, a FAMILY", SetSentences::familyWithoutSets, x -> x.score(4), NOTHING);
        JoinBlocks full = Scenes.roots(200);
        full.find(2, 1, 1);
        Check.due("the last of 200", full.score(199), 1);
        Check.due("behind the last of 200", full.score(200), NOTHING);
        JoinBlocks x = oneSet();
        x.pop();
        Check.due("of a SET that is gone", x.score(0), NOTHING);
    }

    @Sentence(promise = 19, says = "How many are in THE FAMILY of an object (k = -1), the k-th one")
    private static void promise19Family() {
        int[] members = {0, 1, 2};
        Check.asked("family(4, -1)", Scenes::busy, x -> x.family(4, -1), 3);
        for (int k = 0; k < members.length; k++) {
            int place = k;
            Check.asked("family(4, " + k + ")", Scenes::busy, x -> x.family(4, place), members[k]);
        }
        Check.asked("one that has none", Scenes::busy, x -> x.family(10, -1), 0);
        Check.asked("a dead one has none", Scenes::busy, x -> x.family(12, -1), 0);
        JoinBlocks great = new JoinBlocks();
        for (int i = 0; i < 60; i++) {
            great.child(0, i, 0, -1);
        }
        great.close(1, 1000, 0, -1);
        great.find(2, 0, 60);
        great.up(2, 0);
        Check.due("of the greatest BLOCK", great.family(60, -1), 60);
        for (int k = 0; k < 60; k++) {
            Check.due("family(60, " + k + ")", great.family(60, k), 59 - k);
        }
        Check.due("behind the last", great.family(60, 60), -1);
    }

    @Sentence(promise = 19, says = "-1 (also without UP)")
    private static void promise19NoSuchPlace() {
        Check.outside(Scenes::busy, (x, k) -> x.family(4, k), -1, 2, -1);
        Check.outside(Scenes::busy, (x, k) -> x.family(10, k), -1, -1, -1);
        for (int k = -1; k <= 1; k++) {
            int place = k;
            Check.outside(Scenes::busy, (x, object) -> x.family(object, place), 0, 12, -1);
        }
    }

    @Sentence(promise = 19, says = "(also without UP)")
    private static void promise19WithoutUp() {
        for (int object : new int[] {-1, 0, 4, 10, 11}) {
            Check.refused("without UP", SetSentences::oneSet, x -> x.family(object, -1), -1);
            Check.refused("without UP, k 0", SetSentences::oneSet, x -> x.family(object, 0), -1);
        }
        JoinBlocks x = Scenes.blocks();
        x.up(2, 0);
        Check.due("after an UP that was refused", x.family(4, -1), -1);
        withoutUp("find", y -> y.find(0, 0, 0));
        withoutUp("join", y -> y.join(1));
        withoutUp("down", y -> y.down(0));
        withoutUp("over", y -> y.over());
        withoutUp("again", y -> y.again());
        withoutUp("pop", y -> y.pop());
        withoutUp("hit", y -> y.hit(0));
        withoutUp("share", Check::share);
        withoutUp("close", y -> y.close(50, 0, 0, -1));
        x = Scenes.busy();
        x.merge();
        Check.due("after merge()", x.family(4, -1), -1);
    }

    private static void withoutUp(String what, ToLongFunction<JoinBlocks> call) {
        JoinBlocks x = oneSet();
        x.again();
        call.applyAsLong(x);
        Check.due(what + " is no UP", x.family(4, -1), -1);
    }

    private static JoinBlocks twoSets(int before, int last) {
        JoinBlocks x = Scenes.roots(200);
        foundOf(x, before);
        foundOf(x, last);
        return x;
    }

    /** A SET of so many of the ROOTS: all without all, or all, or one found by its KEY and others joined to it. */
    private static void foundOf(JoinBlocks x, int howMany) {
        if (howMany == 200) {
            x.find(0, 0, 0);
            return;
        }
        x.find(2, 1, 0);
        for (int key = 0; key < howMany; key++) {
            x.find(4, key, 0);
            x.join(1);
        }
    }

    @Sentence(promise = 20, says = "1000 times how many the last SET has, by how many the one before it has, cut")
    private static void promise20Share() {
        int[][] shares = {
            {1, 0, 0}, {1, 1, 1000}, {3, 1, 333}, {3, 2, 666}, {2, 3, 1500}, {7, 3, 428}, {200, 1, 5},
            {1, 200, 200000}, {200, 200, 1000}, {3, 200, 66666}, {200, 0, 0},
        };
        for (int[] share : shares) {
            Check.due(share[1] + " by " + share[0], Check.share(twoSets(share[0], share[1])), share[2]);
        }
        Check.asked("of a full STACK", Scenes::fullStack, Check::share, 1000);
    }

    private static JoinBlocks emptyBeforeLast() {
        JoinBlocks x = Scenes.busy();
        x.find(2, 1, 0);
        x.find(0, 0, 0);
        return x;
    }

    private static JoinBlocks twoEmptySets() {
        JoinBlocks x = new JoinBlocks();
        x.find(0, 0, 0);
        x.find(0, 0, 0);
        return x;
    }

    @Sentence(promise = 20, says = "ArithmeticException: that has none")
    private static void promise20TheOneBeforeHasNone() {
        Check.refused("some by none", SetSentences::emptyBeforeLast, Check::share, Check.THROWN);
        Check.refused("none by none", SetSentences::twoEmptySets, Check::share, Check.THROWN);
        JoinBlocks x = emptyBeforeLast();
        Check.share(x);
        x.join(1);
        Check.due("the call after it, 11 by 6", Check.share(x), 1833);
    }

    private static JoinBlocks oneEmptySet() {
        JoinBlocks x = Scenes.blocks();
        x.find(2, 1, 0);
        return x;
    }

    @Sentence(promise = 20, says = "NOTHING (first): fewer than two SETS")
    private static void promise20FewerThanTwoSets() {
        Check.refused("no SET", Scenes::blocks, Check::share, NOTHING);
        Check.refused("one SET", SetSentences::oneSet, Check::share, NOTHING);
        Check.refused("one empty SET", SetSentences::oneEmptySet, Check::share, NOTHING);
        JoinBlocks x = emptyBeforeLast();
        while (x.count(4) > 1) {
            x.pop();
        }
        Check.due("one is left of five", Check.share(x), NOTHING);
    }

    public static void main(String[] args) {
        Check.runAll(SetSentences.class);
    }
}
