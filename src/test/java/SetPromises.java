/** Promises 10 to 20, each with ordinary inputs, the document's edges, and wrong inputs. */
public final class SetPromises {
    private static final int[] FAR = {Integer.MIN_VALUE, Integer.MAX_VALUE};
    private static final long NOTHING = JoinBlocks.NOTHING;

    private static int wrong = 0;
    private static String promise = "";

    private static void due(String what, long got, long want) {
        if (got != want) {
            wrong++;
            System.out.println(promise + ": " + what + " answered " + got + ", due is " + want);
        }
    }

    /** The last SET: numbers and SCORES in turn, in the order of the HITS. */
    private static void dueSet(JoinBlocks x, String what, long... numbersAndScores) {
        int many = numbersAndScores.length / 2;
        due(what + ", hit(-1)", x.hit(-1), many);
        for (int i = 0; i < many; i++) {
            long number = numbersAndScores[2 * i];
            due(what + ", hit(" + i + ")", x.hit(i), number);
            due(what + ", score(" + number + ")", x.score((int) number), numbersAndScores[2 * i + 1]);
        }
        due(what + ", behind the last hit", x.hit(many), -1);
    }

    private static void dueFamily(JoinBlocks x, int object, int... members) {
        due("family(" + object + ", -1)", x.family(object, -1), members.length);
        for (int k = 0; k < members.length; k++) {
            due("family(" + object + ", " + k + ")", x.family(object, k), members[k]);
        }
        due("family(" + object + ", " + members.length + ")", x.family(object, members.length), -1);
    }

    private static int shareThrows(JoinBlocks x) {
        try {
            x.share();
            return 0;
        } catch (ArithmeticException e) {
            return 1;
        }
    }

    /**
     * KEY 10: 0, 1 under 2; 2, 3 under 4. KEY 20: 5 under 9; 6, 7 under 8; 8 under 9. KEY 30: 10 alone.
     */
    private static JoinBlocks threeBlocks() {
        JoinBlocks x = new JoinBlocks();
        x.child(0, 5, 1, 20);
        x.child(0, -3, 3, -1);
        x.child(1, 2, 1, 10);
        x.child(0, 4, 2, 20);
        x.close(10, 9, 5, 10);
        x.child(1, -2, 4, 10);
        x.child(0, -8, 0, -1);
        x.child(0, -5, 7, 30);
        x.child(1, 1000, 255, -1);
        x.close(20, -1000, 0, -1);
        x.close(30, 0, 128, 999);
        return x;
    }

    private static void fillStack(JoinBlocks x) {
        for (int i = x.count(4); i < 8; i++) {
            x.find(0, 0, 0);
        }
    }

    /** The last SET with its SCORES doubled so many times. */
    private static void doubleScores(JoinBlocks x, int times) {
        for (int i = 0; i < times; i++) {
            x.again();
            x.join(1);
        }
    }

    private static void findKinds() {
        promise = "10 find";
        JoinBlocks x = threeBlocks();
        due("all", x.find(0, 0, 0), 11);
        dueSet(x, "all", 0, 0, 1, 0, 2, 0, 3, 0, 4, 0, 5, 0, 6, 0, 7, 0, 8, 0, 9, 0, 10, 0);
        due("count(4)", x.count(4), 1);
        due("tag 1", x.find(1, 1, 0), 6);
        dueSet(x, "tag 1", 0, 1, 1, 1, 2, 1, 4, 1, 7, 1, 8, 1);
        due("tags 3", x.find(1, 3, 0), 3);
        dueSet(x, "tags 3", 1, 2, 7, 2, 8, 2);
        due("tags 255", x.find(1, 255, 0), 1);
        dueSet(x, "tags 255", 8, 8);
        due("no tags", x.find(1, 0, 0), 11);
        due("no tags, score", x.score(8), 0);
        due("values", x.find(2, -5, 5), 7);
        dueSet(x, "values", 0, 5, 3, 4, 2, 2, 10, 0, 5, -2, 1, -3, 7, -5);
        due("all values", x.find(2, -1000, 1000), 11);
        due("count(4)", x.count(4), 7);
        due("a above b", x.find(2, 5, 4), 0);
        dueSet(x, "a above b");
        due("count(4)", x.count(4), 8);
    }

    private static void findMoreKinds() {
        promise = "10 find";
        JoinBlocks x = threeBlocks();
        due("one value", x.find(2, 4, 4), 1);
        due("level 0", x.find(3, 0, 0), 5);
        dueSet(x, "level 0", 0, 0, 1, 0, 3, 0, 6, 0, 7, 0);
        due("level 1", x.find(3, 1, 0), 3);
        dueSet(x, "level 1", 2, 0, 5, 0, 8, 0);
        due("level 2", x.find(3, 2, 0), 3);
        dueSet(x, "level 2", 4, 0, 9, 0, 10, 0);
        due("key 20", x.find(4, 20, 0), 1);
        dueSet(x, "key 20", 9, 1);
        due("no such key", x.find(4, 999, 0), 0);
        due("link 10", x.find(5, 10, 0), 3);
        dueSet(x, "link 10", 2, 1, 4, 1, 5, 1);
        due("link 999", x.find(5, 999, 0), 1);
        due("count(4)", x.count(4), 8);
    }

    private static void findLiving() {
        promise = "10 find";
        JoinBlocks x = threeBlocks();
        x.kill(20);
        due("all", x.find(0, 0, 0), 6);
        due("tag 4", x.find(1, 4, 0), 1);
        due("values", x.find(2, -1000, 1000), 6);
        due("level 1", x.find(3, 1, 0), 1);
        due("a dead key", x.find(4, 20, 0), 0);
        due("link 10", x.find(5, 10, 0), 2);
        x.child(0, 1, 1, 10);
        due("open ones are in none", x.find(5, 10, 0), 2);
        due("of no objects", new JoinBlocks().find(0, 0, 0), 0);
    }

    private static void findBounds() {
        promise = "10 find";
        JoinBlocks x = threeBlocks();
        due("kind -1", x.find(-1, 0, 0), -2);
        due("kind 6", x.find(6, 0, 0), -2);
        due("tags -1", x.find(1, -1, 0), -2);
        due("tags 256", x.find(1, 256, 0), -2);
        due("a -1001", x.find(2, -1001, 0), -2);
        due("a 1001", x.find(2, 1001, 0), -2);
        due("b -1001", x.find(2, 0, -1001), -2);
        due("b 1001", x.find(2, 0, 1001), -2);
        due("level -1", x.find(3, -1, 0), -2);
        due("level 3", x.find(3, 3, 0), -2);
        due("key -1", x.find(4, -1, 0), -2);
        due("key 1000", x.find(4, 1000, 0), -2);
        due("link -1", x.find(5, -1, 0), -2);
        due("link 1000", x.find(5, 1000, 0), -2);
        for (int far : FAR) {
            due("far kind", x.find(far, 0, 0), -2);
            for (int kind = 1; kind <= 5; kind++) {
                due("far a of " + kind, x.find(kind, far, 0), -2);
            }
            due("far b", x.find(2, 0, far), -2);
        }
        due("count(4)", x.count(4), 0);
        for (int far : FAR) {
            due("a counts not for kind 0", x.find(0, far, far), 11);
            x.pop();
            for (int kind = 1; kind <= 5; kind++) {
                due("b counts for kind 2 alone, " + kind, x.find(kind, 0, far) >= 0 ? 1 : 0, kind == 2 ? 0 : 1);
                x.pop();
            }
        }
        fillStack(x);
        due("the 9th", x.find(0, 0, 0), -4);
        due("the 9th, outside its bounds", x.find(6, 0, 0), -2);
        due("count(4)", x.count(4), 8);
    }

    private static void join() {
        promise = "11 join";
        JoinBlocks x = threeBlocks();
        x.find(4, 30, 0);
        x.find(2, 0, 9);
        x.find(1, 1, 0);
        due("both", x.join(0), 3);
        dueSet(x, "both", 4, 10, 0, 6, 2, 3);
        due("count(4)", x.count(4), 2);
        x.pop();
        x.find(2, 0, 9);
        x.find(1, 1, 0);
        due("either", x.join(1), 8);
        dueSet(x, "either", 4, 10, 0, 6, 3, 4, 2, 3, 1, 1, 7, 1, 8, 1, 10, 0);
        x.pop();
        x.find(2, 0, 9);
        x.find(1, 1, 0);
        due("without", x.join(2), 2);
        dueSet(x, "without", 3, 4, 10, 0);
        due("count(4)", x.count(4), 2);
        due("the third and this one", x.join(0), 1);
        dueSet(x, "the third and this one", 10, 1);
        due("count(4)", x.count(4), 1);
    }

    private static void joinEdges() {
        promise = "11 join";
        JoinBlocks x = threeBlocks();
        due("no SET", x.join(0), -3);
        due("no SET, outside", x.join(3), -2);
        x.find(2, 0, 9);
        due("one SET", x.join(1), -3);
        due("one SET, outside", x.join(-1), -2);
        x.find(2, 5, 4);
        due("outside", x.join(3), -2);
        for (int far : FAR) {
            due("far", x.join(far), -2);
        }
        due("count(4)", x.count(4), 2);
        due("without none", x.join(2), 5);
        x.find(2, 5, 4);
        due("either and none", x.join(1), 5);
        x.find(2, 5, 4);
        due("both and none", x.join(0), 0);
        x.find(2, 0, 9);
        due("none without some", x.join(2), 0);
        x.find(2, 1000, 1000);
        doubleScores(x, 54);
        due("1000 by 2 to the 54th", x.score(8), 1000L << 54);
        doubleScores(x, 7);
        due("it wraps", x.score(8), 1000L << 61);
        x.again();
        due("itself without itself", x.join(2), 0);
    }

    private static void upRules() {
        promise = "12 up";
        long[][] roots = {
            {4, 8, 9, 985},
            {4, 5, 9, 1000},
            {4, -3, 9, -8},
            {4, 4, 9, 4},
            {4, 2, 9, 246},
        };
        long[][] middles = {
            {2, 2, 8, -13},
            {2, 5, 8, -5},
            {2, -3, 8, -8},
            {2, 2, 8, 2},
            {2, 1, 8, -6},
        };
        for (int rule = 0; rule < 5; rule++) {
            JoinBlocks x = threeBlocks();
            x.find(3, 2, 0);
            x.find(2, -1000, 1000);
            due("to 2 by " + rule, x.up(2, rule), 2);
            due("count(4)", x.count(4), 2);
            for (int i = 0; i < 4; i += 2) {
                due("rule " + rule + " of " + roots[rule][i], x.score((int) roots[rule][i]), roots[rule][i + 1]);
            }
            x.find(2, -1000, 1000);
            due("to 1 by " + rule, x.up(1, rule), 2);
            for (int i = 0; i < 4; i += 2) {
                due("rule " + rule + " of " + middles[rule][i], x.score((int) middles[rule][i]), middles[rule][i + 1]);
            }
        }
    }

    private static void upEdges() {
        promise = "12 up";
        JoinBlocks x = threeBlocks();
        due("no SET", x.up(1, 0), -3);
        due("no SET, level", x.up(0, 0), -2);
        due("no SET, rule", x.up(1, 5), -2);
        x.find(0, 0, 0);
        due("level 0", x.up(0, 0), -2);
        due("level 3", x.up(3, 0), -2);
        due("rule -1", x.up(1, -1), -2);
        due("rule 5", x.up(1, 5), -2);
        for (int far : FAR) {
            due("far level", x.up(far, 0), -2);
            due("far rule", x.up(1, far), -2);
        }
        dueSet(x, "as before", 0, 0, 1, 0, 2, 0, 3, 0, 4, 0, 5, 0, 6, 0, 7, 0, 8, 0, 9, 0, 10, 0);
        due("family without UP", x.family(0, -1), -1);
        x.find(3, 2, 0);
        due("nothing is above ROOTS", x.up(2, 3), 0);
        x.find(3, 1, 0);
        due("nothing of LEVEL 1 is above LEVEL 1", x.up(1, 3), 0);
        x.find(4, 10, 0);
        x.find(2, 4, 4);
        due("3 has no PARENT of LEVEL 1", x.up(1, 0), 0);
        x.find(2, 4, 4);
        due("3 has a ROOT", x.up(2, 0), 1);
        x.find(2, 1, 0);
        due("an empty SET", x.up(2, 3), 0);
        fillStack(x);
        due("a full STACK", x.up(2, 3), 2);
        due("a full STACK stays full", x.count(4), 8);
    }

    private static void upMeans() {
        promise = "12 up";
        JoinBlocks x = new JoinBlocks();
        x.child(0, -7, 0, -1);
        x.child(0, 0, 0, -1);
        x.close(1, 1000, 0, -1);
        x.child(0, 7, 0, -1);
        x.child(0, 0, 0, -1);
        x.close(2, 1000, 0, -1);
        x.find(2, -7, 7);
        x.up(2, 4);
        due("-7 by 2, cut toward 0", x.score(2), -3);
        due("7 by 2, cut toward 0", x.score(5), 3);
        x = new JoinBlocks();
        x.child(0, 1, 0, -1);
        x.child(0, 1, 0, -1);
        x.close(1, 0, 0, -1);
        x.find(2, 1, 1);
        doubleScores(x, 62);
        x.again();
        x.up(2, 0);
        due("a sum that wraps", x.score(2), Long.MIN_VALUE);
        x.pop();
        x.again();
        x.up(2, 4);
        due("a mean of a sum that wraps", x.score(2), Long.MIN_VALUE / 2);
        x.pop();
        doubleScores(x, 1);
        x.again();
        x.up(2, 0);
        due("a sum that wraps to 0", x.score(2), 0);
        x.pop();
        x.up(2, 1);
        due("the greatest of the least longs", x.score(2), Long.MIN_VALUE);
        due("it is in the SET all the same", x.hit(-1), 1);
    }

    private static void down() {
        promise = "13 down";
        JoinBlocks x = threeBlocks();
        due("no SET", x.down(0), -3);
        due("no SET, level", x.down(2), -2);
        x.find(4, 30, 0);
        x.find(2, 2, 1000);
        due("level -1", x.down(-1), -2);
        due("level 2", x.down(2), -2);
        for (int far : FAR) {
            due("far level", x.down(far), -2);
        }
        dueSet(x, "as before", 8, 1000, 4, 9, 0, 5, 3, 4, 2, 2);
        due("to 0", x.down(0), 5);
        dueSet(x, "to 0", 6, 1000, 7, 1000, 0, 11, 1, 11, 3, 9);
        due("count(4)", x.count(4), 2);
        x.pop();
        x.find(2, -1000, 1000);
        due("to 1", x.down(1), 3);
        dueSet(x, "to 1", 2, 9, 5, -1000, 8, -1000);
        due("nothing of LEVEL 1 is below these", x.down(1), 0);
        due("nothing is below nothing", x.down(0), 0);
        x.find(3, 0, 0);
        due("nothing is below LEVEL 0", x.down(0), 0);
        due("DOWN is no UP", x.family(4, -1), -1);
        x.close(20, 0, 0, -1);
        x.find(3, 2, 0);
        due("dead ones are in none", x.down(0), 3);
        fillStack(x);
        due("a full STACK", x.down(0), 3);
        due("a full STACK stays full", x.count(4), 8);
    }

    private static void downWraps() {
        promise = "13 down";
        JoinBlocks x = new JoinBlocks();
        x.child(0, 0, 0, -1);
        x.child(1, 1, 0, -1);
        x.close(1, 1, 0, -1);
        x.find(2, 1, 1);
        doubleScores(x, 62);
        due("to 0", x.down(0), 1);
        due("a sum that wraps", x.score(0), Long.MIN_VALUE);
    }

    private static void over() {
        promise = "14 over";
        JoinBlocks x = threeBlocks();
        due("no SET", x.over(), -3);
        x.find(4, 30, 0);
        x.find(2, -1000, 1000);
        due("over", x.over(), 6);
        dueSet(x, "over", 2, 9, 4, 9, 5, 9, 7, 0, 0, -1000, 3, -1000);
        due("count(4)", x.count(4), 2);
        x.pop();
        x.find(3, 1, 0);
        due("without ROOTS", x.over(), 0);
        due("of none", x.over(), 0);
        x.find(4, 30, 0);
        x.child(1, 6, 6, 30);
        x.close(40, 0, 0, -1);
        due("those closed since", x.over(), 2);
        dueSet(x, "those closed since", 7, 1, 11, 1);
        x.kill(10);
        x.find(3, 2, 0);
        due("living ones", x.over(), 2);
        dueSet(x, "living ones", 7, 0, 11, 0);
        x.close(0, 0, 0, -1);
        x.find(4, 0, 0);
        due("no LINK is no KEY", x.over(), 0);
        fillStack(x);
        due("a full STACK", x.over(), 2);
        due("a full STACK stays full", x.count(4), 8);
    }

    private static void againAndPop() {
        promise = "15 again";
        JoinBlocks x = threeBlocks();
        due("no SET", x.again(), -3);
        x.find(2, 1000, 1000);
        x.find(2, 4, 9);
        due("once more", x.again(), 3);
        dueSet(x, "once more", 4, 9, 0, 5, 3, 4);
        due("it changes alone", x.up(2, 3), 1);
        promise = "16 pop";
        due("pop", x.pop(), 2);
        dueSet(x, "the one that was copied", 4, 9, 0, 5, 3, 4);
        due("pop", x.pop(), 1);
        dueSet(x, "the first", 8, 1000);
        promise = "15 again";
        for (int i = 2; i <= 8; i++) {
            due("again", x.again(), i);
        }
        due("the 9th", x.again(), -4);
        due("count(4)", x.count(4), 8);
        promise = "16 pop";
        for (int i = 7; i >= 0; i--) {
            dueSet(x, "each of them", 8, 1000);
            due("pop", x.pop(), i);
        }
        due("no SET", x.pop(), -3);
        due("count(4)", x.count(4), 0);
    }

    private static void hit() {
        promise = "17 hit";
        JoinBlocks x = threeBlocks();
        for (int i = -2; i < 2; i++) {
            due("no SET, " + i, x.hit(i), -3);
        }
        x.find(2, -1000, 1000);
        dueSet(x, "by VALUES", 8, 1000, 4, 9, 0, 5, 3, 4, 2, 2, 10, 0, 5, -2, 1, -3, 7, -5, 6, -8, 9, -1000);
        due("hit(-2)", x.hit(-2), -1);
        for (int far : FAR) {
            due("far", x.hit(far), -1);
        }
        x.find(2, 1, 0);
        due("none, -1", x.hit(-1), 0);
        due("none, 0", x.hit(0), -1);
        x.pop();
        doubleScores(x, 60);
        dueSet(x, "longs, wrapped", 0, 5L << 60, 3, 4L << 60, 2, 2L << 60, 10, 0, 5, -2L << 60, 1, -3L << 60,
                7, -5L << 60, 4, 9L << 60, 6, Long.MIN_VALUE, 8, Long.MIN_VALUE, 9, Long.MIN_VALUE);
        x = new JoinBlocks();
        for (int i = 0; i < 200; i++) {
            x.close(i, i % 7 * 100 - 300, 0, -1);
        }
        x.find(2, -1000, 1000);
        due("200 of them", x.hit(-1), 200);
        due("the first", x.hit(0), 6);
        due("the second", x.hit(1), 13);
        due("the last of the greatest", x.hit(27), 195);
        due("the first of the next", x.hit(28), 5);
        due("the last", x.hit(199), 196);
        due("behind it", x.hit(200), -1);
        due("before it", x.hit(198), 189);
    }

    private static void score() {
        promise = "18 score";
        JoinBlocks x = threeBlocks();
        due("no SET", x.score(0), NOTHING);
        x.find(2, -1000, 1000);
        x.find(2, 4, 9);
        due("in it", x.score(0), 5);
        due("not in it", x.score(1), NOTHING);
        due("no such object", x.score(11), NOTHING);
        due("object -1", x.score(-1), NOTHING);
        due("object 199", x.score(199), NOTHING);
        due("object 200", x.score(200), NOTHING);
        for (int far : FAR) {
            due("far", x.score(far), NOTHING);
        }
        x.pop();
        due("in the one before", x.score(1), -3);
        x.pop();
        due("no SET any more", x.score(1), NOTHING);
    }

    private static void family() {
        promise = "19 family";
        JoinBlocks x = threeBlocks();
        due("no UP", x.family(0, -1), -1);
        x.find(2, -1000, 9);
        x.up(2, 0);
        dueFamily(x, 4, 0, 3, 2, 1);
        dueFamily(x, 9, 5, 7, 6);
        dueFamily(x, 2, 0, 1);
        dueFamily(x, 8, 7, 6);
        dueFamily(x, 5);
        dueFamily(x, 10);
        due("k -2", x.family(4, -2), -1);
        due("object -1", x.family(-1, -1), -1);
        due("object 11", x.family(11, -1), -1);
        for (int far : FAR) {
            due("far k", x.family(4, far), -1);
            due("far object", x.family(far, -1), -1);
        }
        due("pop", x.pop(), 0);
        dueFamily(x, 4, 0, 3, 2, 1);
        due("a refused UP", x.up(2, 0), -3);
        dueFamily(x, 4, 0, 3, 2, 1);
        x.find(1, 1, 0);
        due("a refused UP", x.up(0, 0), -2);
        x.again();
        x.join(0);
        x.down(0);
        x.over();
        dueFamily(x, 4, 0, 3, 2, 1);
        x.find(1, 1, 0);
        x.up(1, 0);
        dueFamily(x, 2, 0, 1);
        dueFamily(x, 4, 0, 1, 2);
        dueFamily(x, 9, 7, 8);
    }

    private static void familyGoes() {
        promise = "19 family";
        JoinBlocks x = threeBlocks();
        x.find(0, 0, 0);
        x.up(1, 0);
        x.up(2, 3);
        dueFamily(x, 4, 2);
        dueFamily(x, 9, 8);
        x.up(2, 0);
        dueFamily(x, 4);
        x.find(0, 0, 0);
        x.up(1, 0);
        x.close(40, 0, 0, -1);
        dueFamily(x, 4, 0, 1, 2, 3);
        dueFamily(x, 11);
        x.kill(30);
        due("after kill", x.family(4, -1), -1);
        x.find(0, 0, 0);
        x.up(1, 0);
        dueFamily(x, 10);
        x.close(40, 0, 0, -1);
        due("after close", x.family(4, -1), -1);
        x.find(0, 0, 0);
        x.up(1, 0);
        x.merge();
        due("after merge", x.family(4, -1), -1);
        x.find(2, 1, 0);
        x.up(1, 0);
        dueFamily(x, 4);
    }

    private static void share() {
        promise = "20 share";
        JoinBlocks x = threeBlocks();
        due("no SET", x.share(), NOTHING);
        x.find(2, 1, 0);
        due("one SET, an empty one", x.share(), NOTHING);
        x.find(0, 0, 0);
        due("by none", shareThrows(x), 1);
        due("count(4)", x.count(4), 2);
        x.pop();
        x.again();
        due("none by none", shareThrows(x), 1);
        x.find(3, 0, 0);
        x.find(3, 1, 0);
        due("3 by 5", x.share(), 600);
        x.find(0, 0, 0);
        due("11 by 3", x.share(), 3666);
        x.find(4, 10, 0);
        due("1 by 11", x.share(), 90);
        x.find(2, 1, 0);
        due("0 by 1", x.share(), 0);
        due("count(4)", x.count(4), 7);
        x = new JoinBlocks();
        for (int i = 0; i < 200; i++) {
            x.close(i, 0, 0, -1);
        }
        x.find(4, 1, 0);
        x.find(0, 0, 0);
        due("200 by 1", x.share(), 200000);
    }

    /** 200 objects: blocks of a LEVEL 0, a LEVEL 1 and a ROOT, 66 times, and two ROOTS alone. */
    private static JoinBlocks fullRow() {
        JoinBlocks x = new JoinBlocks();
        for (int i = 0; i < 66; i++) {
            x.child(0, i, 1, 67);
            x.child(1, -i, 2, i);
            x.close(i, 0, 4, -1);
        }
        x.close(66, 0, 8, 66);
        x.close(67, 1000, 8, 0);
        return x;
    }

    private static void allCallsOnAFullRow() {
        JoinBlocks x = fullRow();
        promise = "10 find";
        due("no room", x.close(68, 0, 0, -1), -4);
        due("all", x.find(0, 0, 0), 200);
        due("tag 8", x.find(1, 8, 0), 2);
        dueSet(x, "tag 8", 198, 1, 199, 1);
        promise = "11 join";
        due("without", x.join(2), 198);
        promise = "12 up";
        due("up", x.up(2, 3), 66);
        due("score", x.score(197), 2);
        promise = "19 family";
        dueFamily(x, 197, 195, 196);
        dueFamily(x, 199);
        promise = "13 down";
        due("down", x.down(1), 66);
        due("score", x.score(196), 2);
        promise = "14 over";
        x.find(3, 2, 0);
        due("over", x.over(), 134);
        x.find(4, 67, 0);
        due("over the last", x.over(), 66);
        x.find(4, 66, 0);
        due("over to itself", x.over(), 1);
        dueSet(x, "over to itself", 198, 1);
        promise = "17 hit";
        x.find(2, -1000, 1000);
        due("the first", x.hit(0), 199);
        due("the last", x.hit(199), 196);
        due("behind it", x.hit(200), -1);
        promise = "20 share";
        due("200 by 1", x.share(), 200000);
        promise = "5 kill";
        due("the last", x.kill(67), 1);
        due("count(1)", x.count(1), 199);
    }

    private static void whatMergeLeftBehindIsGone() {
        promise = "14 over";
        JoinBlocks x = threeBlocks();
        x.kill(10);
        x.merge();
        x.find(4, 30, 0);
        due("over", x.over(), 1);
        dueSet(x, "over", 2, 1);
        x.close(999, 0, 0, -1);
        x.find(4, 999, 0);
        due("over the new one", x.over(), 1);
        promise = "8 count";
        due("living ROOTS", x.count(2), 3);
        due("living ones", x.count(1), 7);
    }

    public static void main(String[] args) {
        allCallsOnAFullRow();
        whatMergeLeftBehindIsGone();
        findKinds();
        findMoreKinds();
        findLiving();
        findBounds();
        join();
        joinEdges();
        upRules();
        upEdges();
        upMeans();
        down();
        downWraps();
        over();
        againAndPop();
        hit();
        score();
        family();
        familyGoes();
        share();
        System.out.println(wrong == 0 ? "all answers are as due" : wrong + " answers are not as due");
        if (wrong != 0) {
            System.exit(1);
        }
    }
}
