/** Objects of JoinBlocks in states from which the tests start; none has had more than 230 calls. */
public final class Scenes {
    private Scenes() {
    }

    public static JoinBlocks empty() {
        return new JoinBlocks();
    }

    /**
     * KEY 10: 0, 1 under 2; 2, 3 under 4. KEY 20: 5 under 9; 6, 7 under 8; 8 under 9. KEY 30: 10 alone.
     * Nothing is open, there is no SET.
     */
    public static JoinBlocks blocks() {
        JoinBlocks x = new JoinBlocks();
        x.child(0, 5, 1, 20);
        x.child(0, -3, 3, -1);
        x.child(1, 2, 1, 10);
        x.child(0, 4, 2, 20);
        x.close(10, 9, 5, 10);
        x.child(1, -2, 4, 10);
        x.child(0, -8, 0, -1);
        x.child(0, -5, 7, 30);
        x.child(1, 1000, 255, -1);
        x.close(20, -1000, 0, -1);
        x.close(30, 0, 128, 999);
        return x;
    }

    /** The blocks, behind them a dead one of KEY 40 (11 under 12), two open objects, three SETS, and a FAMILY. */
    public static JoinBlocks busy() {
        JoinBlocks x = blocks();
        x.child(1, 6, 6, 10);
        x.close(40, 7, 7, 20);
        x.kill(40);
        openOnes(x, 2);
        x.find(2, -5, 9);
        x.find(1, 1, 0);
        x.up(2, 0);
        x.find(2, 0, 1000);
        return x;
    }

    /** As many ROOTS, of KEYS 0, 1, 2 and so on, with the VALUE 1, TAGS 1 and no LINK. */
    public static JoinBlocks roots(int howMany) {
        JoinBlocks x = new JoinBlocks();
        for (int key = 0; key < howMany; key++) {
            x.close(key, 1, 1, -1);
        }
        return x;
    }

    /** 200 objects, the first of them dead, in blocks of about 50; two SETS, a FAMILY; three open ones. */
    public static JoinBlocks fullRow() {
        JoinBlocks x = new JoinBlocks();
        x.close(9, 0, 0, -1);
        blockOf(x, 49, 9);
        for (int key = 10; key < 13; key++) {
            blockOf(x, 50, key);
        }
        openOnes(x, 3);
        x.find(2, 3, 1000);
        x.up(2, 0);
        x.find(3, 0, 0);
        return x;
    }

    public static JoinBlocks fullOpenBlock() {
        JoinBlocks x = busy();
        openOnes(x, 58);
        return x;
    }

    public static JoinBlocks fullStack() {
        JoinBlocks x = busy();
        fillStack(x);
        return x;
    }

    /** A block of so many objects, its ROOT among them. */
    public static void blockOf(JoinBlocks x, int objects, int key) {
        openOnes(x, objects - 1);
        x.close(key, 1, 1, -1);
    }

    public static void openOnes(JoinBlocks x, int howMany) {
        for (int i = 0; i < howMany; i++) {
            x.child(i % 5 == 4 ? 1 : 0, i, i % 256, i % 7 - 1);
        }
    }

    public static void fillStack(JoinBlocks x) {
        for (int i = x.count(4); i < 8; i++) {
            x.find(2, i, 1000);
        }
    }

    /** The last SET with its SCORES doubled so many times. */
    public static void doubleScores(JoinBlocks x, int times) {
        for (int i = 0; i < times; i++) {
            x.again();
            x.join(1);
        }
    }
}
