/** Promises 1 to 9, each with ordinary inputs, the document's edges, and wrong inputs. */
public final class BlockPromises {
    private static final int[] FAR = {Integer.MIN_VALUE, Integer.MAX_VALUE};

    private static int wrong = 0;
    private static String promise = "";

    private static void due(String what, long got, long want) {
        if (got != want) {
            wrong++;
            System.out.println(promise + ": " + what + " answered " + got + ", due is " + want);
        }
    }

    /** Block of KEY 10: 0, 1 under 2; 2 and 3 under 4. Block of KEY 20: 5 under 8, 6 under 7, 7 under 8. */
    private static JoinBlocks twoBlocks() {
        JoinBlocks x = new JoinBlocks();
        x.child(0, 5, 1, 20);
        x.child(0, -3, 3, -1);
        x.child(1, 2, 1, 10);
        x.child(0, 4, 2, 20);
        x.close(10, 9, 5, 10);
        x.child(1, -2, 4, 10);
        x.child(0, -8, 0, -1);
        x.child(1, 1000, 255, 999);
        x.close(20, -1000, 0, 0);
        return x;
    }

    private static JoinBlocks withRoots(int howMany) {
        JoinBlocks x = new JoinBlocks();
        for (int key = 0; key < howMany; key++) {
            x.close(key, 0, 0, -1);
        }
        return x;
    }

    private static void openOnes(JoinBlocks x, int howMany) {
        for (int i = 0; i < howMany; i++) {
            x.child(0, 0, 0, -1);
        }
    }

    private static void dueCounts(JoinBlocks x, String when, int... counts) {
        for (int what = 0; what < counts.length; what++) {
            due(when + " count(" + what + ")", x.count(what), counts[what]);
        }
    }

    private static void newObject() {
        promise = "1 a new object";
        JoinBlocks x = new JoinBlocks();
        dueCounts(x, "new", 0, 0, 0, 0, 0);
        due("object(0, 0)", x.object(0, 0), -1);
        due("root(0)", x.root(0), -1);
        due("drop()", x.drop(), 0);
        due("hit(-1)", x.hit(-1), -3);
        due("score(0)", x.score(0), JoinBlocks.NOTHING);
        due("family(0, -1)", x.family(0, -1), -1);
        x.close(1, 0, 0, -1);
        x.find(0, 0, 0);
        dueCounts(new JoinBlocks(), "another new", 0, 0, 0, 0, 0);
    }

    private static void child() {
        promise = "2 child";
        JoinBlocks x = new JoinBlocks();
        due("least", x.child(0, -1000, 0, -1), 1);
        due("most", x.child(1, 1000, 255, 999), 2);
        due("link 0", x.child(0, 0, 0, 0), 3);
        due("level -1", x.child(-1, 0, 0, 0), -2);
        due("level 2", x.child(2, 0, 0, 0), -2);
        due("value -1001", x.child(0, -1001, 0, 0), -2);
        due("value 1001", x.child(0, 1001, 0, 0), -2);
        due("tags -1", x.child(0, 0, -1, 0), -2);
        due("tags 256", x.child(0, 0, 256, 0), -2);
        due("link -2", x.child(0, 0, 0, -2), -2);
        due("link 1000", x.child(0, 0, 0, 1000), -2);
        for (int far : FAR) {
            due("far level", x.child(far, 0, 0, 0), -2);
            due("far value", x.child(0, far, 0, 0), -2);
            due("far tags", x.child(0, 0, far, 0), -2);
            due("far link", x.child(0, 0, 0, far), -2);
        }
        dueCounts(x, "after refusals", 0, 0, 0, 3, 0);
        openOnes(x, 56);
        due("the 60th", x.child(1, 7, 7, 7), 60);
        due("the 61st", x.child(1, 7, 7, 7), -4);
        due("the 61st, outside its bounds", x.child(2, 7, 7, 7), -2);
        due("count(3)", x.count(3), 60);
        due("close", x.close(1, 0, 0, -1), 60);
        due("the first kept its value", x.object(0, 1), -1000);
        due("the 60th kept its value", x.object(59, 1), 7);
        due("the next one", x.child(0, 0, 0, -1), 1);
    }

    private static void childBesideOthers() {
        promise = "2 child";
        JoinBlocks x = withRoots(200);
        due("with 200 objects", x.child(0, 0, 0, -1), 1);
        x.find(0, 0, 0);
        due("with a SET", x.child(0, 0, 0, -1), 2);
        dueCounts(x, "open ones are no objects yet", 200, 200, 200, 2, 1);
    }

    private static void closeBounds() {
        promise = "3 close";
        JoinBlocks x = new JoinBlocks();
        x.child(0, 1, 1, 1);
        due("key -1", x.close(-1, 0, 0, -1), -2);
        due("key 1000", x.close(1000, 0, 0, -1), -2);
        due("value -1001", x.close(0, -1001, 0, -1), -2);
        due("value 1001", x.close(0, 1001, 0, -1), -2);
        due("tags -1", x.close(0, 0, -1, -1), -2);
        due("tags 256", x.close(0, 0, 256, -1), -2);
        due("link -2", x.close(0, 0, 0, -2), -2);
        due("link 1000", x.close(0, 0, 0, 1000), -2);
        for (int far : FAR) {
            due("far key", x.close(far, 0, 0, -1), -2);
            due("far value", x.close(0, far, 0, -1), -2);
            due("far tags", x.close(0, 0, far, -1), -2);
            due("far link", x.close(0, 0, 0, far), -2);
        }
        dueCounts(x, "after refusals", 0, 0, 0, 1, 0);
        due("least", x.close(0, -1000, 0, -1), 1);
        due("most", x.close(999, 1000, 255, 999), 2);
        dueCounts(x, "after two", 3, 3, 2, 0, 0);
        due("the root's level", x.object(1, 0), 2);
        due("a root alone has none below", x.object(2, 7), 0);
    }

    private static void closeKills() {
        promise = "3 close";
        JoinBlocks x = twoBlocks();
        x.find(0, 0, 0);
        x.up(2, 3);
        x.find(0, 0, 0);
        x.child(0, 1, 1, 1);
        due("a new key", x.close(30, 0, 0, -1), 10);
        due("THE STACK stays", x.count(4), 2);
        due("what is closed later is in no SET", x.score(10), JoinBlocks.NOTHING);
        due("nor its child", x.score(9), JoinBlocks.NOTHING);
        due("HITS stay as many", x.hit(-1), 9);
        due("THE FAMILY stays", x.family(4, -1), 4);
        due("the new one has none", x.family(10, -1), 0);
        x.child(1, 3, 3, 3);
        due("a key that is there", x.close(10, 7, 0, -1), 12);
        dueCounts(x, "after the kill", 13, 8, 3, 0, 0);
        for (int i = 0; i < 13; i++) {
            due("lives " + i, x.object(i, 6), i < 5 ? 0 : 1);
        }
        due("the living one", x.root(10), 12);
        due("THE FAMILY is gone", x.family(8, -1), -1);
        due("the same key once more", x.close(10, 7, 0, -1), 13);
        dueCounts(x, "only the latest lives", 14, 7, 3, 0, 0);
    }

    private static void closeRoom() {
        promise = "3 close";
        JoinBlocks x = withRoots(150);
        x.find(0, 0, 0);
        openOnes(x, 50);
        due("201 with a key that is there", x.close(3, 0, 0, -1), -4);
        due("201 and outside its bounds", x.close(3, 1001, 0, -1), -2);
        dueCounts(x, "nothing is killed then", 150, 150, 150, 50, 1);
        x.drop();
        openOnes(x, 49);
        due("200", x.close(3, 0, 0, -1), 199);
        dueCounts(x, "one block died", 200, 199, 150, 0, 0);
        due("dead ones count", x.close(4, 0, 0, -1), -4);
        x.merge();
        due("merge() makes room", x.close(3, 0, 0, -1), 199);
        dueCounts(x, "49 and 1 died", 200, 150, 150, 0, 0);
    }

    private static void drop() {
        promise = "4 drop";
        JoinBlocks x = twoBlocks();
        x.find(0, 0, 0);
        due("nothing open", x.drop(), 0);
        openOnes(x, 3);
        due("three open", x.drop(), 3);
        due("once more", x.drop(), 0);
        dueCounts(x, "all else stays", 9, 9, 2, 0, 1);
        due("close", x.close(30, 0, 0, -1), 9);
        due("the dropped ones are not in it", x.object(9, 7), 0);
        openOnes(x, 60);
        due("sixty open", x.drop(), 60);
        due("room again", x.child(0, 0, 0, -1), 1);
    }

    private static void kill() {
        promise = "5 kill";
        JoinBlocks x = twoBlocks();
        openOnes(x, 2);
        x.find(0, 0, 0);
        x.up(2, 0);
        x.find(0, 0, 0);
        due("no such key", x.kill(11), -1);
        due("key -1", x.kill(-1), -1);
        due("key 1000", x.kill(1000), -1);
        for (int far : FAR) {
            due("far key", x.kill(far), -1);
        }
        dueCounts(x, "after refusals", 9, 9, 2, 2, 2);
        due("THE FAMILY stays", x.family(4, -1), 4);
        due("the second", x.kill(20), 4);
        for (int i = 0; i < 9; i++) {
            due("lives " + i, x.object(i, 6), i < 5 ? 1 : 0);
        }
        dueCounts(x, "after the kill", 9, 5, 1, 2, 0);
        due("THE FAMILY is gone", x.family(4, -1), -1);
        due("it is dead", x.kill(20), -1);
        due("the first", x.kill(10), 5);
        dueCounts(x, "all dead", 9, 0, 0, 2, 0);
        due("a child's KEY is none", x.kill(-1), -1);
        due("a dead key comes anew", x.close(20, 1, 0, -1), 11);
        due("it dies anew", x.kill(20), 3);
    }

    private static void merge() {
        promise = "6 merge";
        JoinBlocks x = new JoinBlocks();
        due("nothing", x.merge(), 0);
        x = twoBlocks();
        x.child(0, 77, 7, 7);
        x.close(30, 1, 2, 3);
        openOnes(x, 2);
        x.kill(20);
        x.find(0, 0, 0);
        x.up(2, 0);
        due("one block gone", x.merge(), 7);
        dueCounts(x, "after", 7, 7, 2, 2, 0);
        due("THE FAMILY is gone", x.family(4, -1), -1);
        due("the first stands", x.root(10), 4);
        due("the third moved", x.root(30), 6);
        due("its child's value", x.object(5, 1), 77);
        due("its child's tags", x.object(5, 2), 7);
        due("its child's link", x.object(5, 3), 7);
        due("its child's parent", x.object(5, 5), 6);
        due("its child's level", x.object(5, 0), 0);
        due("its child lives", x.object(5, 6), 1);
        due("its key", x.object(6, 4), 30);
        due("its value", x.object(6, 1), 1);
        due("below it", x.object(6, 7), 1);
        due("no more", x.object(7, 0), -1);
        x.find(0, 0, 0);
        x.up(2, 0);
        due("none dead", x.merge(), 7);
        due("THE STACK is empty all the same", x.count(4), 0);
        due("THE FAMILY is gone all the same", x.family(4, -1), -1);
        due("the open ones are closed behind", x.close(10, 0, 0, -1), 9);
        due("the first block went", x.merge(), 5);
        due("the third is the first now", x.root(30), 1);
        due("the new one", x.root(10), 4);
        x.kill(30);
        x.kill(10);
        due("all gone", x.merge(), 0);
    }

    private static void object() {
        promise = "7 object";
        JoinBlocks x = twoBlocks();
        int[][] all = {
            {0, 5, 1, 20, -3, 2, 1, 0},
            {0, -3, 3, -1, -3, 2, 1, 0},
            {1, 2, 1, 10, -3, 4, 1, 2},
            {0, 4, 2, 20, -3, 4, 1, 0},
            {2, 9, 5, 10, 10, -3, 1, 4},
            {1, -2, 4, 10, -3, 8, 1, 0},
            {0, -8, 0, -1, -3, 7, 1, 0},
            {1, 1000, 255, 999, -3, 8, 1, 1},
            {2, -1000, 0, 0, 20, -3, 1, 3},
        };
        for (int i = 0; i < all.length; i++) {
            for (int what = 0; what < 8; what++) {
                due("object(" + i + ", " + what + ")", x.object(i, what), all[i][what]);
            }
        }
        x.kill(10);
        for (int what = 0; what < 8; what++) {
            due("a dead root, " + what, x.object(4, what), what == 6 ? 0 : all[4][what]);
            due("a dead child, " + what, x.object(2, what), what == 6 ? 0 : all[2][what]);
        }
        x.child(0, 0, 0, -1);
        due("an open one is none yet", x.object(9, 0), -1);
        due("what -1", x.object(0, -1), -2);
        due("what 8", x.object(0, 8), -2);
        due("i -1", x.object(-1, 0), -1);
        due("i and what", x.object(9, 8), -1);
        for (int far : FAR) {
            due("far i", x.object(far, 0), -1);
            due("far what", x.object(0, far), -2);
        }
    }

    private static void count() {
        promise = "8 count";
        JoinBlocks x = twoBlocks();
        openOnes(x, 3);
        x.close(30, 0, 0, -1);
        x.kill(20);
        openOnes(x, 2);
        x.find(0, 0, 0);
        x.again();
        x.again();
        dueCounts(x, "all", 13, 9, 2, 2, 3);
        due("what -1", x.count(-1), -2);
        due("what 5", x.count(5), -2);
        for (int far : FAR) {
            due("far what", x.count(far), -2);
        }
    }

    private static void root() {
        promise = "9 root";
        JoinBlocks x = twoBlocks();
        due("the first", x.root(10), 4);
        due("the second", x.root(20), 8);
        due("none", x.root(30), -1);
        due("key -1", x.root(-1), -1);
        due("key 1000", x.root(1000), -1);
        for (int far : FAR) {
            due("far key", x.root(far), -1);
        }
        x.close(10, 0, 0, -1);
        due("the living one", x.root(10), 9);
        x.kill(10);
        due("none lives", x.root(10), -1);
        x.close(0, 0, 0, -1);
        x.close(999, 0, 0, -1);
        due("the least key", x.root(0), 10);
        due("the greatest key", x.root(999), 11);
    }

    public static void main(String[] args) {
        newObject();
        child();
        childBesideOthers();
        closeBounds();
        closeKills();
        closeRoom();
        drop();
        kill();
        merge();
        object();
        count();
        root();
        System.out.println(wrong == 0 ? "all answers are as due" : wrong + " answers are not as due");
        if (wrong != 0) {
            System.exit(1);
        }
    }
}
