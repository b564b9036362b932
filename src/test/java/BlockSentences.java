/** The sentences of promises 1 to 9 that name a boundary case. */
public final class BlockSentences {
    private static final long NOTHING = JoinBlocks.NOTHING;

    private BlockSentences() {
    }

    @Sentence(promise = 1, says = "No objects, nothing open, no SETS")
    private static void promise1NothingIsThere() {
        Check.dueCounts(new JoinBlocks(), 0, 0, 0, 0, 0);
        Check.refused("object(0, 0)", Scenes::empty, x -> x.object(0, 0), -1);
        Check.refused("root(0)", Scenes::empty, x -> x.root(0), -1);
        Check.refused("kill(0)", Scenes::empty, x -> x.kill(0), -1);
        Check.asked("drop()", Scenes::empty, x -> x.drop(), 0);
        Check.asked("merge()", Scenes::empty, x -> x.merge(), 0);
        Check.refused("join(0)", Scenes::empty, x -> x.join(0), -3);
        Check.refused("up(1, 0)", Scenes::empty, x -> x.up(1, 0), -3);
        Check.refused("down(0)", Scenes::empty, x -> x.down(0), -3);
        Check.refused("over()", Scenes::empty, x -> x.over(), -3);
        Check.refused("again()", Scenes::empty, x -> x.again(), -3);
        Check.refused("pop()", Scenes::empty, x -> x.pop(), -3);
        Check.refused("hit(-1)", Scenes::empty, x -> x.hit(-1), -3);
        Check.refused("score(0)", Scenes::empty, x -> x.score(0), NOTHING);
        Check.refused("family(0, -1)", Scenes::empty, x -> x.family(0, -1), -1);
        Check.refused("share()", Scenes::empty, Check::share, NOTHING);
        Check.due("find(0, 0, 0)", new JoinBlocks().find(0, 0, 0), 0);
    }

    @Sentence(promise = 1, says = "No objects, nothing open, no SETS")
    private static void promise1NothingOfAnotherIsThere() {
        JoinBlocks other = Scenes.fullStack();
        JoinBlocks x = new JoinBlocks();
        Check.dueCounts(x, 0, 0, 0, 0, 0);
        x.close(10, 0, 0, -1);
        Check.dueCounts(other, 13, 11, 3, 2, 8);
    }

    @Sentence(promise = 1, says = "No objects, nothing open, no SETS")
    private static void promise1NoObjectIsChangedByAnother() {
        Check.unchanged("another one made", Scenes::busy, x -> new JoinBlocks().count(0));
        Check.unchanged("another one with blocks, SETS and a FAMILY", Scenes::busy, x -> Scenes.fullRow().count(0));
        Check.unchanged("another one with more SETS", Scenes::busy, x -> Scenes.fullStack().drop());
        Check.unchanged("another one without its dead", Scenes::busy, x -> Scenes.fullRow().merge());
    }

    @Sentence(promise = 2, says = "An object more of THE OPEN BLOCK: how many it has")
    private static void promise2HowManyItHas() {
        JoinBlocks x = new JoinBlocks();
        for (int many = 1; many <= 60; many++) {
            Check.due("object " + many, x.child(many % 2, many, many, many), many);
        }
        Check.dueCounts(x, 0, 0, 0, 60, 0);
        x.close(0, 0, 0, -1);
        Check.due("the first of the next", x.child(0, 0, 0, -1), 1);
        for (int i = 0; i < 60; i++) {
            Check.due("LEVEL of " + i, x.object(i, 0), (i + 1) % 2);
            Check.due("VALUE of " + i, x.object(i, 1), i + 1);
            Check.due("TAGS of " + i, x.object(i, 2), i + 1);
            Check.due("LINK of " + i, x.object(i, 3), i + 1);
        }
    }

    @Sentence(promise = 2, says = "An object more of THE OPEN BLOCK")
    private static void promise2WithAFullRowAndAFullStack() {
        JoinBlocks x = Scenes.fullRow();
        Check.due("with 200 objects", x.child(0, 0, 0, -1), 4);
        Check.dueCounts(x, 200, 199, 4, 4, 2);
        x = Scenes.fullStack();
        Check.due("with 8 SETS", x.child(0, 0, 0, -1), 3);
        Check.dueCounts(x, 13, 11, 3, 3, 8);
    }

    @Sentence(promise = 2, says = "-2 LEVEL (0, 1)")
    private static void promise2Level() {
        Check.bounds(Scenes::busy, (x, level) -> x.child(level, 0, 0, -1), 0, 1, 3);
    }

    @Sentence(promise = 2, says = "-2 LEVEL (0, 1), VALUE")
    private static void promise2Value() {
        Check.bounds(Scenes::busy, (x, value) -> x.child(1, value, 0, -1), -1000, 1000, 3);
    }

    @Sentence(promise = 2, says = "-2 LEVEL (0, 1), VALUE, TAGS")
    private static void promise2Tags() {
        Check.bounds(Scenes::busy, (x, tags) -> x.child(0, 0, tags, -1), 0, 255, 3);
    }

    @Sentence(promise = 2, says = "-2 LEVEL (0, 1), VALUE, TAGS, LINK")
    private static void promise2Link() {
        Check.bounds(Scenes::busy, (x, link) -> x.child(0, 0, 0, link), -1, 999, 3);
        Check.due("LINK 0", Scenes.busy().child(0, 0, 0, 0), 3);
    }

    @Sentence(promise = 2, says = "-4")
    private static void promise2NoRoom() {
        JoinBlocks x = Scenes.busy();
        Scenes.openOnes(x, 57);
        Check.due("the 60th", x.child(1, 0, 0, -1), 60);
        Check.refused("the 61st", Scenes::fullOpenBlock, y -> y.child(1, 5, 5, 5), -4);
    }

    @Sentence(promise = 3, says = "THE OPEN BLOCK is closed with this ROOT: the number of that")
    private static void promise3TheNumberOfTheRoot() {
        JoinBlocks x = new JoinBlocks();
        Check.due("nothing open, no objects", x.close(5, -7, 3, 8), 0);
        int[] told = {2, -7, 3, 8, 5, -3, 1, 0};
        for (int what = 0; what < 8; what++) {
            Check.due("the ROOT, " + what, x.object(0, what), told[what]);
        }
        Scenes.openOnes(x, 60);
        Check.due("sixty open", x.close(6, 0, 0, -1), 61);
        Check.due("nothing is open", x.count(3), 0);
        Check.due("sixty are BELOW it", x.object(61, 7), 60);
        Check.due("the last that there can be", Scenes.roots(199).close(999, 0, 0, -1), 199);
    }

    @Sentence(promise = 3, says = "-2")
    private static void promise3Key() {
        Check.bounds(Scenes::busy, (x, key) -> x.close(key, 0, 0, -1), 0, 999, 15);
    }

    @Sentence(promise = 3, says = "-2")
    private static void promise3Value() {
        Check.bounds(Scenes::busy, (x, value) -> x.close(50, value, 0, -1), -1000, 1000, 15);
        Check.outside(Scenes::busy, (x, value) -> x.close(10, value, 0, -1), -1000, 1000, -2);
    }

    @Sentence(promise = 3, says = "-2")
    private static void promise3Tags() {
        Check.bounds(Scenes::busy, (x, tags) -> x.close(50, 0, tags, -1), 0, 255, 15);
        Check.outside(Scenes::busy, (x, tags) -> x.close(10, 0, tags, -1), 0, 255, -2);
    }

    @Sentence(promise = 3, says = "-2")
    private static void promise3Link() {
        Check.bounds(Scenes::busy, (x, link) -> x.close(50, 0, 0, link), -1, 999, 15);
        Check.outside(Scenes::busy, (x, link) -> x.close(10, 0, 0, link), -1, 999, -2);
    }

    private static JoinBlocks rootsAndOpenOnes(int roots, int open) {
        JoinBlocks x = Scenes.roots(roots);
        Scenes.openOnes(x, open);
        x.find(0, 0, 0);
        return x;
    }

    @Sentence(promise = 3, says = "-4 there would be more than 200")
    private static void promise3NoRoom() {
        Check.due("200, one by one", Scenes.roots(199).close(500, 0, 0, -1), 199);
        Check.refused("201, one by one", () -> Scenes.roots(200), x -> x.close(500, 0, 0, -1), -4);
        Check.due("200, sixty open", rootsAndOpenOnes(139, 60).close(500, 0, 0, -1), 199);
        Check.refused("201, sixty open", () -> rootsAndOpenOnes(140, 60), x -> x.close(500, 0, 0, -1), -4);
        Check.due("200, one open", rootsAndOpenOnes(198, 1).close(500, 0, 0, -1), 199);
        Check.refused("201, one open", () -> rootsAndOpenOnes(199, 1), x -> x.close(500, 0, 0, -1), -4);
    }

    /** So many ROOTS, all but the last one dead, and so many open ones. */
    private static JoinBlocks deadAndOpenOnes(int objects, int open) {
        JoinBlocks x = new JoinBlocks();
        for (int i = 0; i < objects; i++) {
            x.close(7, 0, 0, -1);
        }
        Scenes.openOnes(x, open);
        x.find(0, 0, 0);
        return x;
    }

    @Sentence(promise = 3, says = "-4 there would be more than 200 (dead ones, too; nothing is killed then)")
    private static void promise3DeadOnesCount() {
        JoinBlocks x = deadAndOpenOnes(196, 3);
        Check.due("200 with the dead", x.close(7, 0, 0, -1), 199);
        Check.dueCounts(x, 200, 4, 1, 0, 0);
        Check.refused("201 with the dead", () -> deadAndOpenOnes(197, 3), y -> y.close(8, 0, 0, -1), -4);
        Check.refused("nothing is killed", () -> deadAndOpenOnes(197, 3), y -> y.close(7, 0, 0, -1), -4);
        Check.refused("of 200 living", () -> Scenes.roots(200), y -> y.close(7, 0, 0, -1), -4);
        Check.refused("in a full row", Scenes::fullRow, y -> y.close(10, 0, 0, -1), -4);
    }

    @Sentence(promise = 3, says = "THE STACK is emptied if a BLOCK is killed by it")
    private static void promise3TheStack() {
        JoinBlocks x = Scenes.fullStack();
        x.close(40, 0, 0, -1);
        Check.due("a KEY whose BLOCK is dead", x.count(4), 8);
        x.close(50, 0, 0, -1);
        Check.due("a new KEY", x.count(4), 8);
        Check.dueSet(x, "the last SET stays", 8, 1000, 4, 9);
        Check.due("THE FAMILY stays", x.family(4, -1), 3);
        x.close(50, 0, 0, -1);
        Check.due("a KEY that is there", x.count(4), 0);
        Check.due("no last SET", x.hit(-1), -3);
        Check.due("THE FAMILY is gone", x.family(4, -1), -1);
    }

    @Sentence(promise = 4, says = "THE OPEN BLOCK is empty: how many it had")
    private static void promise4HowManyItHad() {
        Check.asked("nothing open", Scenes::blocks, x -> x.drop(), 0);
        JoinBlocks x = Scenes.fullOpenBlock();
        Check.due("sixty open", x.drop(), 60);
        Check.due("nothing is left", x.drop(), 0);
        Check.dueCounts(x, 13, 11, 3, 0, 3);
        Check.due("THE FAMILY stays", x.family(4, -1), 3);
        Check.due("the first anew", x.child(0, 77, 7, 7), 1);
        x.close(50, 0, 0, -1);
        Check.due("the dropped ones are not in it", x.object(14, 7), 1);
        Check.due("the first is the new one", x.object(13, 1), 77);
    }

    @Sentence(promise = 5, says = "The BLOCK of a KEY dies: how many objects")
    private static void promise5HowManyObjects() {
        JoinBlocks x = Scenes.busy();
        Check.due("a ROOT alone", x.kill(30), 1);
        Check.due("THE STACK is empty", x.count(4), 0);
        Check.due("the second BLOCK", x.kill(20), 5);
        Check.due("the first BLOCK", x.kill(10), 5);
        Check.dueCounts(x, 13, 0, 0, 2, 0);
        Scenes.openOnes(x, 58);
        x.close(0, 0, 0, -1);
        x.close(999, 0, 0, -1);
        Check.due("the greatest BLOCK, the least KEY", x.kill(0), 61);
        Check.due("the greatest KEY", x.kill(999), 1);
        Check.dueCounts(x, 75, 0, 0, 0, 0);
    }

    @Sentence(promise = 5, says = "-1")
    private static void promise5NoSuchKey() {
        Check.refused("a KEY that none has", Scenes::busy, x -> x.kill(11), -1);
        Check.refused("a KEY whose BLOCK is dead", Scenes::busy, x -> x.kill(40), -1);
        Check.refused("what stands for no KEY in answers", Scenes::busy, x -> x.kill(-3), -1);
        Check.outside(Scenes::busy, (x, key) -> x.kill(key), 0, 999, -1);
        Check.refused("of no objects", Scenes::empty, x -> x.kill(0), -1);
        Check.refused("of 200 objects", () -> Scenes.roots(200), x -> x.kill(200), -1);
    }

    @Sentence(promise = 6, says = "Dead objects go, the others get numbers anew, in the same row: how many there are")
    private static void promise6DeadObjectsGo() {
        int[] killed = {10, 20, 30};
        int[][] values = {
            {-2, -8, -5, 1000, -1000, 0},
            {5, -3, 2, 4, 9, 0},
            {5, -3, 2, 4, 9, -2, -8, -5, 1000, -1000},
        };
        for (int i = 0; i < 3; i++) {
            JoinBlocks x = Scenes.blocks();
            x.kill(killed[i]);
            Check.due("without " + killed[i], x.merge(), values[i].length);
            Check.dueCounts(x, values[i].length, values[i].length, 2, 0, 0);
            for (int object = 0; object < values[i].length; object++) {
                Check.due("VALUE of " + object, x.object(object, 1), values[i][object]);
                Check.due("whether it lives", x.object(object, 6), 1);
            }
            Check.due("behind the last", x.object(values[i].length, 1), -1);
        }
    }

    @Sentence(promise = 6, says = "the others get numbers anew, in the same row")
    private static void promise6TheOthersStayAsTheyWere() {
        JoinBlocks x = Scenes.busy();
        x.kill(10);
        x.merge();
        int[][] all = {
            {1, -2, 4, 10, -3, 4, 1, 0},
            {0, -8, 0, -1, -3, 3, 1, 0},
            {0, -5, 7, 30, -3, 3, 1, 0},
            {1, 1000, 255, -1, -3, 4, 1, 2},
            {2, -1000, 0, -1, 20, -3, 1, 4},
            {2, 0, 128, 999, 30, -3, 1, 0},
        };
        Check.dueCounts(x, 6, 6, 2, 2, 0);
        for (int i = 0; i < all.length; i++) {
            for (int what = 0; what < 8; what++) {
                Check.due("object(" + i + ", " + what + ")", x.object(i, what), all[i][what]);
            }
        }
        Check.due("root(20)", x.root(20), 4);
        Check.due("root(10)", x.root(10), -1);
        Check.due("the open ones are closed behind", x.close(10, 0, 0, -1), 8);
    }

    @Sentence(promise = 6, says = "Dead objects go, the others get numbers anew, in the same row: how many there are")
    private static void promise6NoneAndAll() {
        Check.due("of no objects", new JoinBlocks().merge(), 0);
        Check.asked("none dead, no SETS", Scenes::blocks, x -> x.merge(), 11);
        Check.due("200 living", Scenes.roots(200).merge(), 200);
        JoinBlocks x = Scenes.roots(200);
        for (int key = 0; key < 200; key++) {
            x.kill(key);
        }
        Check.due("200 dead", x.merge(), 0);
        Check.dueCounts(x, 0, 0, 0, 0, 0);
        Check.due("the first anew", x.close(7, 0, 0, -1), 0);
        Check.due("once more", x.merge(), 1);
    }

    @Sentence(promise = 6, says = "Dead objects go")
    private static void promise6NothingIsLeftBehindTheRow() {
        JoinBlocks x = Scenes.roots(4);
        x.kill(0);
        x.kill(1);
        Check.due("two are left", x.merge(), 2);
        Check.due("the first that is left", x.root(2), 0);
        Check.due("the last that is left", x.root(3), 1);
        x.kill(2);
        x.kill(3);
        for (int key = 0; key < 4; key++) {
            Check.due("root(" + key + ")", x.root(key), -1);
            Check.due("kill(" + key + ")", x.kill(key), -1);
            Check.due("find(4, " + key + ", 0)", x.find(4, key, 0), 0);
        }
        Check.dueCounts(x, 2, 0, 0, 0, 4);
        Check.due("behind the last", x.object(2, 0), -1);
        Check.due("all that live", x.find(0, 0, 0), 0);
        Check.due("the next one", x.close(2, 0, 0, -1), 2);
    }

    @Sentence(promise = 6, says = "Dead objects go")
    private static void promise6TheSetsGoToo() {
        JoinBlocks x = Scenes.busy();
        Check.due("one BLOCK is dead", x.merge(), 11);
        Check.dueCounts(x, 11, 11, 3, 2, 0);
        Check.due("THE FAMILY is gone", x.family(4, -1), -1);
    }

    @Sentence(promise = 7, says = "0 LEVEL, 1 VALUE, 2 TAGS, 3 LINK (-1), 4 KEY (-3: no ROOT), "
            + "5 its PARENT (-3: a ROOT), 6 whether it lives (1, 0), 7 how many are BELOW it")
    private static void promise7WhatIsTold() {
        int[][] all = {
            {0, 5, 1, 20, -3, 2, 1, 0},
            {0, -3, 3, -1, -3, 2, 1, 0},
            {1, 2, 1, 10, -3, 4, 1, 2},
            {0, 4, 2, 20, -3, 4, 1, 0},
            {2, 9, 5, 10, 10, -3, 1, 4},
            {1, -2, 4, 10, -3, 9, 1, 0},
            {0, -8, 0, -1, -3, 8, 1, 0},
            {0, -5, 7, 30, -3, 8, 1, 0},
            {1, 1000, 255, -1, -3, 9, 1, 2},
            {2, -1000, 0, -1, 20, -3, 1, 4},
            {2, 0, 128, 999, 30, -3, 1, 0},
            {1, 6, 6, 10, -3, 12, 0, 0},
            {2, 7, 7, 20, 40, -3, 0, 1},
        };
        for (int i = 0; i < all.length; i++) {
            for (int what = 0; what < 8; what++) {
                int object = i;
                int told = what;
                Check.asked("object(" + i + ", " + what + ")", Scenes::busy, x -> x.object(object, told), all[i][what]);
            }
        }
    }

    @Sentence(promise = 7, says = "-1")
    private static void promise7NoSuchObject() {
        for (int what = 0; what < 8; what++) {
            int asked = what;
            Check.outside(Scenes::busy, (x, i) -> x.object(i, asked), 0, 12, -1);
        }
        Check.refused("of no objects", Scenes::empty, x -> x.object(0, 0), -1);
        Check.due("the last of 200", Scenes.fullRow().object(199, 0), 2);
        Check.outside(Scenes::fullRow, (x, i) -> x.object(i, 0), 0, 199, -1);
        JoinBlocks x = Scenes.busy();
        x.merge();
        Check.due("one that went", x.object(11, 0), -1);
    }

    @Sentence(promise = 7, says = "-2 what")
    private static void promise7What() {
        Check.outside(Scenes::busy, (x, what) -> x.object(0, what), 0, 7, -2);
        Check.outside(Scenes::busy, (x, what) -> x.object(4, what), 0, 7, -2);
        Check.outside(Scenes::busy, (x, what) -> x.object(12, what), 0, 7, -2);
        Check.outside(Scenes::busy, (x, what) -> x.object(13, what), 0, 7, -1);
        Check.outside(Scenes::busy, (x, what) -> x.object(-1, what), 0, 7, -1);
    }

    @Sentence(promise = 7, says = "VALUE may be any of its numbers")
    private static void promise7ValueMayBeAnyOfItsNumbers() {
        JoinBlocks x = new JoinBlocks();
        for (int value = -4; value <= 0; value++) {
            x.child(0, value, 0, -1);
        }
        x.child(0, -1000, 0, -1);
        x.close(1, 1000, 0, -1);
        for (int i = 0; i < 5; i++) {
            Check.due("VALUE of " + i, x.object(i, 1), i - 4);
        }
        Check.due("the least", x.object(5, 1), -1000);
        Check.due("the greatest", x.object(6, 1), 1000);
    }

    @Sentence(promise = 8, says = "How many objects (what = 0), of these living (1), living ROOTS (2), "
            + "open ones (3), SETS on THE STACK (4)")
    private static void promise8HowMany() {
        Check.dueCounts(Scenes.empty(), 0, 0, 0, 0, 0);
        Check.dueCounts(Scenes.blocks(), 11, 11, 3, 0, 0);
        Check.dueCounts(Scenes.busy(), 13, 11, 3, 2, 3);
        Check.dueCounts(Scenes.fullOpenBlock(), 13, 11, 3, 60, 3);
        Check.dueCounts(Scenes.fullStack(), 13, 11, 3, 2, 8);
        Check.dueCounts(Scenes.fullRow(), 200, 199, 4, 3, 2);
        Check.dueCounts(Scenes.roots(200), 200, 200, 200, 0, 0);
        for (int what = 0; what < 5; what++) {
            int asked = what;
            Check.unchanged("count(" + what + ")", Scenes::busy, x -> x.count(asked));
        }
    }

    @Sentence(promise = 8, says = "-2")
    private static void promise8What() {
        Check.outside(Scenes::busy, (x, what) -> x.count(what), 0, 4, -2);
        Check.outside(Scenes::empty, (x, what) -> x.count(what), 0, 4, -2);
    }

    @Sentence(promise = 9, says = "The living ROOT of a KEY")
    private static void promise9TheLivingRoot() {
        JoinBlocks x = new JoinBlocks();
        x.close(0, 0, 0, -1);
        x.close(999, 0, 0, -1);
        Check.due("the least KEY", x.root(0), 0);
        Check.due("the greatest KEY", x.root(999), 1);
        x.close(0, 0, 0, -1);
        Check.due("the living one of two", x.root(0), 2);
        Check.due("the last of 200", Scenes.roots(200).root(199), 199);
        Check.asked("root(30)", Scenes::busy, y -> y.root(30), 10);
    }

    @Sentence(promise = 9, says = "-1")
    private static void promise9NoSuchKey() {
        Check.refused("a KEY that none has", Scenes::busy, x -> x.root(11), -1);
        Check.refused("a KEY whose BLOCK is dead", Scenes::busy, x -> x.root(40), -1);
        Check.refused("what stands for no KEY in answers", Scenes::busy, x -> x.root(-3), -1);
        Check.outside(Scenes::busy, (x, key) -> x.root(key), 0, 999, -1);
        Check.refused("of no objects", Scenes::empty, x -> x.root(0), -1);
        Check.refused("of 200 objects", () -> Scenes.roots(200), x -> x.root(200), -1);
    }

    public static void main(String[] args) {
        Check.runAll(BlockSentences.class);
    }
}
