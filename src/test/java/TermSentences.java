/** The sentences ahead of the promises ("What it is", "Terms", the REFUSALS) that name a boundary case. */
public final class TermSentences {
    private static final long NOTHING = JoinBlocks.NOTHING;

    private TermSentences() {
    }

    @Sentence(promise = 0, says = "An object is used for at most 512 calls after it has been made")
    private static void usedForAtMost512Calls() {
        JoinBlocks x = Scenes.roots(200);
        for (int calls = 200; calls < 510; calls += 2) {
            x.find(0, 0, 0);
            x.pop();
        }
        Check.due("call 511, find(0, 0, 0)", x.find(0, 0, 0), 200);
        Check.due("call 512, hit(199)", x.hit(199), 199);
        for (int more = 0; more < 600; more++) {
            x.again();
            x.child(more % 3, more, more, more);
            x.close(more, 0, 0, -1);
            x.join(more % 4);
            x.up(more % 3, more % 6);
            Check.share(x);
        }
    }

    @Sentence(promise = 0, says = "OBJECTS (200 at most, dead ones count till merge())")
    private static void objects200AtMost() {
        JoinBlocks x = Scenes.roots(199);
        Check.due("the 200th", x.close(500, 0, 0, -1), 199);
        Check.due("the 201st", x.close(501, 0, 0, -1), -4);
        Check.due("200 live", x.count(1), 200);
        x.kill(500);
        Check.due("the 201st, one being dead", x.close(501, 0, 0, -1), -4);
        Check.due("they count", x.count(0), 200);
        x.merge();
        Check.due("they count no more", x.count(0), 199);
        Check.due("the 200th once more", x.close(501, 0, 0, -1), 199);
    }

    @Sentence(promise = 0, says = "are numbered from 0 on as they stand")
    private static void numberedFrom0On() {
        JoinBlocks x = new JoinBlocks();
        Check.due("the first is not there yet", x.object(0, 0), -1);
        x.child(0, 70, 0, -1);
        x.child(1, 71, 0, -1);
        x.close(5, 72, 0, -1);
        for (int i = 0; i < 3; i++) {
            Check.due("the VALUE of " + i, x.object(i, 1), 70 + i);
        }
        Check.due("ahead of the first", x.object(-1, 1), -1);
        Check.due("behind the last", x.object(3, 1), -1);
    }

    @Sentence(promise = 0, says = "a LEVEL (0, 1; 2 of ROOTS)")
    private static void levels() {
        JoinBlocks x = new JoinBlocks();
        x.child(0, 0, 0, -1);
        x.child(1, 0, 0, -1);
        x.close(0, 0, 0, -1);
        for (int level = 0; level <= 2; level++) {
            Check.due("LEVEL of " + level, x.object(level, 0), level);
        }
    }

    @Sentence(promise = 0, says = "a VALUE (-1000 to 1000)")
    private static void values() {
        JoinBlocks x = new JoinBlocks();
        x.child(0, -1000, 0, -1);
        x.child(0, 1000, 0, -1);
        x.close(0, -1000, 0, -1);
        x.close(1, 1000, 0, -1);
        for (int i = 0; i < 4; i++) {
            Check.due("VALUE of " + i, x.object(i, 1), i % 2 == 0 ? -1000 : 1000);
        }
    }

    @Sentence(promise = 0, says = "TAGS (a set of 8, as bits 0 to 255)")
    private static void tags() {
        JoinBlocks x = new JoinBlocks();
        for (int tag = 0; tag < 8; tag++) {
            x.child(0, 0, 1 << tag, -1);
        }
        x.close(0, 0, 0, -1);
        x.close(1, 0, 255, -1);
        for (int tag = 0; tag < 8; tag++) {
            Check.due("TAGS of " + tag, x.object(tag, 2), 1 << tag);
            x.find(1, 1 << tag, 0);
            Check.dueSet(x, "those of tag " + tag, tag, 1, 9, 1);
            x.pop();
        }
        Check.due("no TAGS", x.object(8, 2), 0);
        Check.due("all TAGS", x.object(9, 2), 255);
    }

    @Sentence(promise = 0, says = "a LINK (0 to 999, or -1: none)")
    private static void links() {
        int[] links = {-1, 0, 999};
        JoinBlocks x = new JoinBlocks();
        for (int link : links) {
            x.child(1, 0, 0, link);
        }
        for (int i = 0; i < 3; i++) {
            x.close(i, 0, 0, links[i]);
        }
        for (int i = 0; i < 6; i++) {
            Check.due("LINK of " + i, x.object(i, 3), links[i % 3]);
        }
    }

    @Sentence(promise = 0, says = "a ROOT a KEY (0 to 999)")
    private static void keys() {
        JoinBlocks x = new JoinBlocks();
        x.close(0, 0, 0, -1);
        x.close(999, 0, 0, -1);
        Check.due("KEY 0", x.object(0, 4), 0);
        Check.due("KEY 999", x.object(1, 4), 999);
        Check.due("root(0)", x.root(0), 0);
        Check.due("root(999)", x.root(999), 1);
    }

    @Sentence(promise = 0, says = "yet to be closed (60 at most)")
    private static void open60AtMost() {
        JoinBlocks x = new JoinBlocks();
        Scenes.openOnes(x, 59);
        Check.due("the 60th", x.child(0, 0, 0, -1), 60);
        Check.due("the 61st", x.child(0, 0, 0, -1), -4);
        Check.due("the ROOT is none of the 60", x.close(0, 0, 0, -1), 60);
        Scenes.openOnes(x, 59);
        Check.due("the 60th of the next", x.child(0, 0, 0, -1), 60);
        Check.due("the 61st of the next", x.child(0, 0, 0, -1), -4);
    }

    @Sentence(promise = 0, says = "closed, they stand behind all others, and their ROOT behind them: a BLOCK")
    private static void closedTheyStandBehindAllOthers() {
        JoinBlocks x = new JoinBlocks();
        Check.due("a ROOT alone, of no others", x.close(5, 1, 0, -1), 0);
        x.kill(5);
        x.child(0, 2, 0, -1);
        x.child(1, 3, 0, -1);
        x.child(0, 4, 0, -1);
        Check.due("behind a dead one", x.close(6, 5, 0, -1), 4);
        Check.due("a ROOT alone, behind others", x.close(7, 6, 0, -1), 5);
        for (int i = 0; i < 6; i++) {
            Check.due("VALUE of " + i, x.object(i, 1), i + 1);
        }
        Check.dueCounts(x, 6, 5, 2, 0, 0);
    }

    @Sentence(promise = 0, says = "A KEY is that of one living ROOT at most: "
            + "a BLOCK that is closed kills the one that has its KEY")
    private static void oneLivingRootOfAKey() {
        JoinBlocks x = Scenes.blocks();
        Scenes.openOnes(x, 2);
        Check.due("KEY 10 anew", x.close(10, 0, 0, -1), 13);
        Check.due("KEY 10 a third time", x.close(10, 0, 0, -1), 14);
        Check.dueCounts(x, 15, 7, 3, 0, 0);
        for (int i = 0; i < 15; i++) {
            Check.due("whether " + i + " lives", x.object(i, 6), i > 4 && i < 11 || i == 14 ? 1 : 0);
        }
        x.find(4, 10, 0);
        Check.dueSet(x, "the ROOT of KEY 10", 14, 1);
    }

    @Sentence(promise = 0, says = "A BLOCK dies as a whole")
    private static void aBlockDiesAsAWhole() {
        JoinBlocks x = Scenes.blocks();
        x.kill(20);
        for (int i = 0; i < 11; i++) {
            Check.due("whether " + i + " lives", x.object(i, 6), i < 5 || i == 10 ? 1 : 0);
        }
        x = Scenes.blocks();
        x.kill(10);
        for (int i = 0; i < 11; i++) {
            Check.due("the first BLOCK being dead, whether " + i + " lives", x.object(i, 6), i < 5 ? 0 : 1);
        }
        x = new JoinBlocks();
        Scenes.blockOf(x, 61, 1);
        Scenes.blockOf(x, 61, 2);
        Scenes.blockOf(x, 61, 3);
        Check.due("the greatest BLOCK", x.kill(2), 61);
        for (int i = 0; i < 183; i++) {
            Check.due("of three great BLOCKS, whether " + i + " lives", x.object(i, 6), i < 61 || i > 121 ? 1 : 0);
        }
    }

    @Sentence(promise = 0, says = "PARENT of an object: the nearest one behind it of a greater LEVEL")
    private static void parentIsTheNearestOfAGreaterLevel() {
        int[] levels = {1, 0, 0, 1, 1, 0};
        int[] parents = {6, 3, 3, 6, 6, 6};
        JoinBlocks x = new JoinBlocks();
        for (int level : levels) {
            x.child(level, 0, 0, -1);
        }
        x.close(1, 0, 0, -1);
        x.child(1, 0, 0, -1);
        x.close(2, 0, 0, -1);
        for (int i = 0; i < 6; i++) {
            Check.due("PARENT of " + i, x.object(i, 5), parents[i]);
        }
        Check.due("a ROOT ahead of another BLOCK has none", x.object(6, 5), -3);
        Check.due("PARENT of 7", x.object(7, 5), 8);
        Check.due("the last ROOT has none", x.object(8, 5), -3);
    }

    @Sentence(promise = 0, says = "Those ABOVE it: its PARENT, the PARENT of that, so on. What it is ABOVE is BELOW it")
    private static void aboveAndBelow() {
        int[] levels = {0, 1, 1, 0, 0, 1, 0};
        int[] below = {0, 1, 0, 0, 0, 2, 0, 7, 0, 1};
        JoinBlocks x = new JoinBlocks();
        for (int level : levels) {
            x.child(level, 0, 0, -1);
        }
        x.close(1, 0, 0, -1);
        x.child(0, 0, 0, -1);
        x.close(2, 0, 0, -1);
        for (int i = 0; i < below.length; i++) {
            Check.due("how many are BELOW " + i, x.object(i, 7), below[i]);
        }
    }

    @Sentence(promise = 0, says = "A SET has living OBJECTS")
    private static void aSetHasLivingObjects() {
        int[][] finds = {{0, 0, 0, 5}, {1, 1, 0, 4}, {2, -1000, 1000, 5}, {3, 0, 0, 3}, {4, 20, 0, 0}, {5, 10, 0, 2}};
        for (int[] find : finds) {
            JoinBlocks x = Scenes.blocks();
            x.kill(20);
            x.kill(30);
            Check.due("find of KIND " + find[0], x.find(find[0], find[1], find[2]), find[3]);
            Check.due("how many", x.hit(-1), find[3]);
            Check.due("a dead ROOT", x.score(9), NOTHING);
            Check.due("a dead child", x.score(5), NOTHING);
        }
    }

    @Sentence(promise = 0, says = "each with a SCORE (a long, wrapping)")
    private static void aScoreWraps() {
        JoinBlocks x = new JoinBlocks();
        x.close(1, 1, 0, -1);
        x.close(2, -1, 0, -1);
        x.find(2, -1, 1);
        Scenes.doubleScores(x, 62);
        Check.dueSet(x, "2 to the 62nd", 0, 1L << 62, 1, -(1L << 62));
        Scenes.doubleScores(x, 1);
        Check.dueSet(x, "2 to the 63rd", 0, Long.MIN_VALUE, 1, Long.MIN_VALUE);
        x.find(2, -1, -1);
        x.join(1);
        Check.dueSet(x, "one less than the least", 1, Long.MAX_VALUE, 0, Long.MIN_VALUE);
        Scenes.doubleScores(x, 1);
        Check.dueSet(x, "all bits out", 0, 0, 1, -2);
    }

    @Sentence(promise = 0, says = "THE STACK has 8 SETS at most")
    private static void stackHas8SetsAtMost() {
        JoinBlocks x = Scenes.blocks();
        for (int sets = 1; sets <= 8; sets++) {
            Check.due("the SET " + sets, x.find(2, sets, 1000) >= 0 ? 0 : 1, 0);
            Check.due("SETS", x.count(4), sets);
        }
        Check.due("a 9th by find", x.find(0, 0, 0), -4);
        Check.due("a 9th by again", x.again(), -4);
        Check.due("SETS", x.count(4), 8);
        x.pop();
        Check.due("the 8th by again", x.again(), 8);
        Check.due("a 9th", x.find(0, 0, 0), -4);
    }

    @Sentence(promise = 0, says = "merge() and what kills a BLOCK empty it")
    private static void whatEmptiesTheStack() {
        JoinBlocks x = Scenes.fullStack();
        x.merge();
        Check.due("merge() of a full STACK", x.count(4), 0);
        x.find(0, 0, 0);
        x.merge();
        Check.due("merge() without the dead", x.count(4), 0);
        x = Scenes.fullStack();
        x.kill(30);
        Check.due("kill", x.count(4), 0);
        Check.due("no last SET", x.hit(-1), -3);
        x = Scenes.fullStack();
        x.close(30, 0, 0, -1);
        Check.due("close with a KEY that is there", x.count(4), 0);
        x = Scenes.fullStack();
        x.kill(40);
        x.close(40, 0, 0, -1);
        x.drop();
        x.child(0, 0, 0, -1);
        Check.due("what kills none", x.count(4), 8);
    }

    @Sentence(promise = 0, says = "what is closed later is in none of its SETS")
    private static void whatIsClosedLaterIsInNoSet() {
        JoinBlocks x = Scenes.blocks();
        for (int i = 0; i < 8; i++) {
            x.find(0, 0, 0);
        }
        Scenes.openOnes(x, 2);
        x.close(50, 9, 9, 9);
        for (int sets = 8; sets > 0; sets--) {
            Check.due("SET " + sets, x.hit(-1), 11);
            for (int i = 11; i < 14; i++) {
                Check.due("SCORE of " + i + " in SET " + sets, x.score(i), NOTHING);
            }
            x.pop();
        }
        x.find(0, 0, 0);
        Check.due("a SET found after it", x.hit(-1), 14);
    }

    @Sentence(promise = 0, says = "0 all (0)")
    private static void kind0() {
        JoinBlocks x = Scenes.blocks();
        x.kill(20);
        Check.due("all that live", x.find(0, 0, 0), 6);
        Check.dueSet(x, "all", 0, 0, 1, 0, 2, 0, 3, 0, 4, 0, 10, 0);
        Check.due("of no objects", new JoinBlocks().find(0, 0, 0), 0);
        Check.due("of 200", Scenes.roots(200).find(0, 0, 0), 200);
    }

    @Sentence(promise = 0, says = "1 those that have all TAGS of a (as many as these are)")
    private static void kind1() {
        JoinBlocks x = Scenes.blocks();
        x.find(1, 0, 0);
        Check.dueSet(x, "no TAGS", 0, 0, 1, 0, 2, 0, 3, 0, 4, 0, 5, 0, 6, 0, 7, 0, 8, 0, 9, 0, 10, 0);
        x.find(1, 3, 0);
        Check.dueSet(x, "two TAGS, not one of them alone", 1, 2, 7, 2, 8, 2);
        x.find(1, 255, 0);
        Check.dueSet(x, "all TAGS", 8, 8);
        x.find(1, 128, 0);
        Check.dueSet(x, "the last tag", 8, 1, 10, 1);
        x.find(1, 64 + 5, 0);
        Check.dueSet(x, "three TAGS", 8, 3);
    }

    @Sentence(promise = 0, says = "2 those whose VALUE is a to b (the VALUE)")
    private static void kind2() {
        JoinBlocks x = Scenes.blocks();
        x.find(2, -3, 4);
        Check.dueSet(x, "both ends are in", 3, 4, 2, 2, 10, 0, 5, -2, 1, -3);
        x.find(2, -2, 3);
        Check.dueSet(x, "one less at both ends", 2, 2, 10, 0, 5, -2);
        x.find(2, 4, 4);
        Check.dueSet(x, "a is b", 3, 4);
        x.find(2, 4, 3);
        Check.dueSet(x, "a above b");
        x.find(2, -1000, -1000);
        Check.dueSet(x, "the least VALUE", 9, -1000);
        x.find(2, 1000, 1000);
        Check.dueSet(x, "the greatest VALUE", 8, 1000);
        Check.due("all VALUES", x.find(2, -1000, 1000), 11);
    }

    @Sentence(promise = 0, says = "3 those of LEVEL a (0)")
    private static void kind3() {
        JoinBlocks x = Scenes.blocks();
        x.find(3, 0, 0);
        Check.dueSet(x, "LEVEL 0", 0, 0, 1, 0, 3, 0, 6, 0, 7, 0);
        x.find(3, 1, 0);
        Check.dueSet(x, "LEVEL 1", 2, 0, 5, 0, 8, 0);
        x.find(3, 2, 0);
        Check.dueSet(x, "LEVEL 2", 4, 0, 9, 0, 10, 0);
    }

    @Sentence(promise = 0, says = "4 the ROOT of KEY a (1)")
    private static void kind4() {
        JoinBlocks x = Scenes.blocks();
        x.close(0, 0, 0, -1);
        x.close(999, 0, 0, -1);
        x.close(0, 0, 0, -1);
        x.find(4, 0, 0);
        Check.dueSet(x, "KEY 0, the living ROOT", 13, 1);
        x.find(4, 999, 0);
        Check.dueSet(x, "KEY 999", 12, 1);
        x.find(4, 11, 0);
        Check.dueSet(x, "a KEY that none has");
        x.kill(999);
        x.find(4, 999, 0);
        Check.dueSet(x, "a KEY that is dead");
    }

    @Sentence(promise = 0, says = "5 those whose LINK is a (1)")
    private static void kind5() {
        JoinBlocks x = Scenes.blocks();
        x.close(31, 0, 0, 0);
        x.find(5, 10, 0);
        Check.dueSet(x, "LINK 10", 2, 1, 4, 1, 5, 1);
        x.find(5, 0, 0);
        Check.dueSet(x, "LINK 0, not those without", 11, 1);
        x.find(5, 999, 0);
        Check.dueSet(x, "LINK 999", 10, 1);
        x.find(5, 500, 0);
        Check.dueSet(x, "a LINK that none has");
    }

    @Sentence(promise = 0, says = "BOTH: objects that are in both of the last two SETS, with the sum of SCORES")
    private static void both() {
        JoinBlocks x = Scenes.blocks();
        x.find(2, 0, 9);
        x.find(1, 1, 0);
        x.join(0);
        Check.dueSet(x, "some", 4, 10, 0, 6, 2, 3);
        x.find(3, 1, 0);
        x.join(0);
        Check.dueSet(x, "one", 2, 3);
        x.find(4, 20, 0);
        x.join(0);
        Check.dueSet(x, "none");
        x.again();
        x.join(0);
        Check.dueSet(x, "none and none");
        x.find(0, 0, 0);
        x.join(0);
        Check.dueSet(x, "none and all");
    }

    @Sentence(promise = 0, says = "EITHER: in one at least, with the sum of the SCORES that they have")
    private static void either() {
        JoinBlocks x = Scenes.blocks();
        x.find(2, 0, 9);
        x.find(1, 1, 0);
        x.join(1);
        Check.dueSet(x, "some", 4, 10, 0, 6, 3, 4, 2, 3, 1, 1, 7, 1, 8, 1, 10, 0);
        x.find(2, 1, 0);
        x.join(1);
        Check.dueSet(x, "and none", 4, 10, 0, 6, 3, 4, 2, 3, 1, 1, 7, 1, 8, 1, 10, 0);
        x.find(2, 1, 0);
        x.find(4, 20, 0);
        x.join(1);
        Check.dueSet(x, "none, and one", 9, 1);
        x.find(2, 1, 0);
        x.again();
        x.join(1);
        Check.dueSet(x, "none and none");
    }

    @Sentence(promise = 0, says = "WITHOUT: in the one before the last, not in the last, as there")
    private static void without() {
        JoinBlocks x = Scenes.blocks();
        x.find(2, 0, 9);
        x.find(1, 1, 0);
        x.join(2);
        Check.dueSet(x, "some", 3, 4, 10, 0);
        x.find(2, 1, 0);
        x.join(2);
        Check.dueSet(x, "without none", 3, 4, 10, 0);
        x.find(4, 20, 0);
        x.join(2);
        Check.dueSet(x, "without another", 3, 4, 10, 0);
        x.again();
        x.join(2);
        Check.dueSet(x, "without itself");
        x.find(0, 0, 0);
        x.join(2);
        Check.dueSet(x, "none without all");
    }

    @Sentence(promise = 0, says = "UP to a LEVEL (1, 2): the objects of this LEVEL that are ABOVE one of the last SET")
    private static void up() {
        JoinBlocks x = Scenes.blocks();
        x.find(3, 0, 0);
        x.up(1, 3);
        Check.dueSet(x, "LEVEL 0 to 1", 2, 2, 8, 2);
        x.find(3, 0, 0);
        x.up(2, 3);
        Check.dueSet(x, "LEVEL 0 to 2", 4, 3, 9, 2);
        x.find(3, 1, 0);
        x.up(2, 3);
        Check.dueSet(x, "LEVEL 1 to 2", 9, 2, 4, 1);
        x.find(3, 1, 0);
        x.up(1, 3);
        Check.dueSet(x, "LEVEL 1 to 1: none is ABOVE itself");
        x.find(3, 2, 0);
        x.up(2, 3);
        Check.dueSet(x, "none is ABOVE a ROOT");
        x.up(2, 3);
        Check.dueSet(x, "of none");
        x.find(2, 4, 4);
        x.up(1, 3);
        Check.dueSet(x, "3 has a ROOT alone ABOVE it");
        x.find(0, 0, 0);
        x.up(2, 3);
        Check.dueSet(x, "a ROOT alone has none BELOW it", 4, 4, 9, 4);
    }

    /** Objects with these VALUES under one ROOT, led up to it by a RULE; the SCORE of each is its VALUE and 1. */
    private static long ledUp(int rule, int... values) {
        JoinBlocks x = new JoinBlocks();
        for (int value : values) {
            x.child(0, value, 1, -1);
        }
        x.close(1, 0, 0, -1);
        x.find(2, -1000, 1000);
        x.find(1, 1, 0);
        x.join(0);
        Check.due("one ROOT", x.up(2, rule), 1);
        return x.score(values.length);
    }

    @Sentence(promise = 0, says = "a SCORE by a RULE of the SCORES of those of the SET that are BELOW it: 0 their sum")
    private static void rule0() {
        Check.due("of one", ledUp(0, 5), 6);
        Check.due("of three", ledUp(0, 5, -9, 3), 2);
        Check.due("of -1 and 0, one more each", ledUp(0, -2, -1), -1);
        JoinBlocks x = new JoinBlocks();
        x.child(0, 1, 0, -1);
        x.child(0, 1, 0, -1);
        x.close(1, 0, 0, -1);
        x.find(2, 1, 1);
        Scenes.doubleScores(x, 62);
        x.up(2, 0);
        Check.dueSet(x, "a sum that wraps", 2, Long.MIN_VALUE);
    }

    @Sentence(promise = 0, says = "1 the greatest")
    private static void rule1() {
        Check.due("of one", ledUp(1, -5), -4);
        Check.due("of three, all below 0", ledUp(1, -9, -5, -7), -4);
        Check.due("of like ones", ledUp(1, 5, 5), 6);
        Check.due("the last", ledUp(1, 1, 2, 3), 4);
        Check.due("the first", ledUp(1, 3, 2, 1), 4);
        Check.due("far ones, the greater ahead", farOnes(1, 1, -1), 1L << 62);
        Check.due("far ones, the lesser ahead", farOnes(1, -1, 1), 1L << 62);
    }

    @Sentence(promise = 0, says = "2 the least")
    private static void rule2() {
        Check.due("of one", ledUp(2, 5), 6);
        Check.due("of three, all above 0", ledUp(2, 9, 5, 7), 6);
        Check.due("of like ones", ledUp(2, 5, 5), 6);
        Check.due("the last", ledUp(2, 3, 2, 1), 2);
        Check.due("the first", ledUp(2, 1, 2, 3), 2);
        Check.due("far ones, the greater ahead", farOnes(2, 1, -1), -(1L << 62));
        Check.due("far ones, the lesser ahead", farOnes(2, -1, 1), -(1L << 62));
    }

    /** 2 to the 62nd and the same below 0, whose difference wraps, led up by a RULE. */
    private static long farOnes(int rule, int first, int second) {
        JoinBlocks x = new JoinBlocks();
        x.child(0, first, 0, -1);
        x.child(0, second, 0, -1);
        x.close(1, 5, 0, -1);
        x.find(2, -1, 1);
        Scenes.doubleScores(x, 62);
        x.up(2, rule);
        return x.score(2);
    }

    @Sentence(promise = 0, says = "3 how many")
    private static void rule3() {
        Check.due("one", ledUp(3, -5), 1);
        Check.due("three", ledUp(3, 9, 0, -9), 3);
        JoinBlocks x = new JoinBlocks();
        Scenes.blockOf(x, 61, 1);
        x.find(3, 0, 0);
        x.find(3, 1, 0);
        x.join(1);
        x.up(2, 3);
        Check.dueSet(x, "sixty with the SCORE 0", 60, 60);
        x = Scenes.blocks();
        x.find(2, 4, 5);
        x.up(2, 3);
        Check.dueSet(x, "two of the four BELOW it", 4, 2);
        x = new JoinBlocks();
        x.child(0, 1, 0, -1);
        x.child(0, -1, 0, -1);
        x.close(1, 5, 0, -1);
        x.find(2, -1, 1);
        Scenes.doubleScores(x, 63);
        x.find(2, -1, -1);
        x.join(1);
        Check.dueSet(x, "the farthest SCORES", 1, Long.MAX_VALUE, 0, Long.MIN_VALUE);
        x.up(2, 3);
        Check.dueSet(x, "two of the farthest SCORES", 2, 2);
    }

    @Sentence(promise = 0, says = "4 the mean, cut toward 0")
    private static void rule4() {
        Check.due("of one", ledUp(4, -5), -4);
        Check.due("7 by 2", ledUp(4, 6, -1), 3);
        Check.due("-7 by 2", ledUp(4, -8, -1), -3);
        Check.due("1 by 2", ledUp(4, 0, -1), 0);
        Check.due("-1 by 2", ledUp(4, -2, -1), 0);
        Check.due("-3 by 3", ledUp(4, -2, -2, -2), -1);
        Check.due("-4 by 3", ledUp(4, -2, -2, -3), -1);
        Check.due("-6 by 3", ledUp(4, -3, -3, -3), -2);
        JoinBlocks x = new JoinBlocks();
        x.child(0, 1, 0, -1);
        x.child(0, 1, 0, -1);
        x.close(1, 0, 0, -1);
        x.find(2, 1, 1);
        Scenes.doubleScores(x, 62);
        x.up(2, 4);
        Check.dueSet(x, "of a sum that wraps", 2, Long.MIN_VALUE / 2);
        x = Scenes.blocks();
        x.find(2, 4, 5);
        x.up(2, 4);
        Check.dueSet(x, "of two of the four BELOW it", 4, 4);
    }

    @Sentence(promise = 0, says = "DOWN to a LEVEL (0, 1): living objects of this LEVEL that are BELOW one of the SET")
    private static void down() {
        JoinBlocks x = Scenes.blocks();
        x.find(3, 2, 0);
        x.down(1);
        Check.dueSet(x, "LEVEL 2 to 1", 2, 0, 5, 0, 8, 0);
        x.down(0);
        Check.dueSet(x, "LEVEL 1 to 0", 0, 0, 1, 0, 6, 0, 7, 0);
        x.down(0);
        Check.dueSet(x, "none is BELOW LEVEL 0");
        x.down(1);
        Check.dueSet(x, "of none");
        x.find(3, 2, 0);
        x.down(0);
        Check.dueSet(x, "LEVEL 2 to 0", 0, 0, 1, 0, 3, 0, 6, 0, 7, 0);
        x.find(3, 1, 0);
        x.down(1);
        Check.dueSet(x, "LEVEL 1 to 1: none is BELOW itself");
        x.find(4, 30, 0);
        x.down(0);
        Check.dueSet(x, "a ROOT alone");
        x.kill(20);
        x.find(0, 0, 0);
        x.down(0);
        Check.dueSet(x, "living ones", 0, 0, 1, 0, 3, 0);
    }

    @Sentence(promise = 0, says = "a SCORE: the sum of those of the SET that are ABOVE it")
    private static void downScores() {
        JoinBlocks x = Scenes.blocks();
        x.find(2, -1000, 1000);
        x.down(0);
        Check.dueSet(x, "two ABOVE or one, not its own", 0, 11, 1, 11, 3, 9, 6, 0, 7, 0);
        x = new JoinBlocks();
        x.child(0, 0, 0, -1);
        x.child(1, 1, 0, -1);
        x.close(1, 1, 0, -1);
        x.find(2, 1, 1);
        Scenes.doubleScores(x, 62);
        x.down(0);
        Check.dueSet(x, "a sum that wraps", 0, Long.MIN_VALUE);
    }

    @Sentence(promise = 0, says = "OVER: living objects whose LINK is the KEY of a ROOT in the SET, with its SCORE")
    private static void over() {
        JoinBlocks x = Scenes.blocks();
        x.find(2, -1000, 1000);
        x.over();
        Check.dueSet(x, "a ROOT that tells its own KEY, too", 2, 9, 4, 9, 5, 9, 7, 0, 0, -1000, 3, -1000);
        x.find(3, 1, 0);
        x.over();
        Check.dueSet(x, "without ROOTS: no LINK is no KEY");
        x.over();
        Check.dueSet(x, "of none");
        x.close(0, 0, 0, -1);
        x.close(999, 0, 0, 0);
        x.find(4, 0, 0);
        x.over();
        Check.dueSet(x, "the least KEY, not those without a LINK", 12, 1);
        x.find(4, 999, 0);
        x.over();
        Check.dueSet(x, "the greatest KEY", 10, 1);
        x.kill(20);
        x.find(3, 2, 0);
        x.over();
        Check.dueSet(x, "living ones", 2, 0, 4, 0, 10, 0, 12, 0);
        x = new JoinBlocks();
        x.close(0, 5, 0, 1);
        x.close(1, 6, 0, 0);
        x.find(2, -1000, 1000);
        x.over();
        Check.dueSet(x, "the first object and the last as ROOTS", 0, 6, 1, 5);
    }

    @Sentence(promise = 0, says = "All take their SETS from THE STACK and lay theirs")
    private static void allTakeTheirSetsAndLayTheirs() {
        JoinBlocks x = Scenes.fullStack();
        x.up(2, 0);
        Check.due("UP of a full STACK", x.count(4), 8);
        x.down(0);
        Check.due("DOWN of a full STACK", x.count(4), 8);
        x.over();
        Check.due("OVER of a full STACK", x.count(4), 8);
        for (int how = 0; how < 3; how++) {
            x.join(how);
            Check.due("join(" + how + ")", x.count(4), 7 - how);
        }
        for (int call = 0; call < 6; call++) {
            x = Scenes.blocks();
            x.find(2, 2, 5);
            x.find(4, 10, 0);
            x.find(1, 1, 0);
            x.find(0, 0, 0);
            int left = takeAndLay(x, call);
            Check.due("how many SETS, call " + call, x.count(4), left + 1);
            while (x.count(4) > 1) {
                x.pop();
            }
            Check.dueSet(x, "the first SET, call " + call, 0, 5, 3, 4, 2, 2);
        }
    }

    private static int takeAndLay(JoinBlocks x, int call) {
        switch (call) {
            case 0:
                x.up(2, 0);
                return 3;
            case 1:
                x.down(0);
                return 3;
            case 2:
                x.over();
                return 3;
            default:
                x.join(call - 3);
                return 2;
        }
    }

    @Sentence(promise = 0, says = "HITS of the last SET are by SCORES, the greatest first, "
            + "of like ones the lesser number")
    private static void hits() {
        JoinBlocks x = Scenes.blocks();
        x.find(2, -1000, 1000);
        x.find(1, 1, 0);
        x.join(1);
        x.find(3, 1, 0);
        x.join(1);
        Check.dueSet(x, "mixed", 8, 1001, 4, 10, 0, 6, 3, 4, 2, 3, 10, 0, 1, -2, 5, -2, 7, -4, 6, -8, 9, -1000);
        x = Scenes.roots(200);
        x.find(2, 1, 1);
        for (int i = 0; i < 200; i++) {
            Check.due("of 200 like ones, hit " + i, x.hit(i), i);
        }
        x = new JoinBlocks();
        for (int i = 0; i < 100; i++) {
            x.close(i, i / 2, 0, -1);
        }
        x.find(2, -1000, 1000);
        for (int i = 0; i < 100; i++) {
            Check.due("of like pairs, hit " + i, x.hit(i), 98 - i / 2 * 2 + i % 2);
        }
    }

    @Sentence(promise = 0, says = "by SCORES, the greatest first")
    private static void hitsFarApart() {
        JoinBlocks x = new JoinBlocks();
        x.close(1, -1, 0, -1);
        x.close(2, 1, 0, -1);
        x.find(2, -1, 1);
        Scenes.doubleScores(x, 62);
        Check.dueSet(x, "a difference that wraps", 1, 1L << 62, 0, -(1L << 62));
        x.find(2, -1, -1);
        Scenes.doubleScores(x, 62);
        x.join(1);
        x.find(2, 1, 1);
        Scenes.doubleScores(x, 62);
        x.join(1);
        Check.dueSet(x, "two of the least SCORE", 0, Long.MIN_VALUE, 1, Long.MIN_VALUE);
    }

    @Sentence(promise = 0, says = "THE FAMILY of an object: what was BELOW it of the SET "
            + "from which the latest UP went, as HITS are")
    private static void family() {
        JoinBlocks x = Scenes.blocks();
        x.find(2, -1000, 1000);
        x.up(1, 0);
        Check.dueFamily(x, 2, 0, 1);
        Check.dueFamily(x, 8, 7, 6);
        Check.dueFamily(x, 4, 0, 3, 2, 1);
        Check.dueFamily(x, 9, 8, 5, 7, 6);
        Check.dueFamily(x, 5);
        Check.dueFamily(x, 0);
        Check.dueFamily(x, 10);
        x.find(0, 0, 0);
        x.up(2, 4);
        Check.dueFamily(x, 4, 0, 1, 2, 3);
        x.find(2, 1, 0);
        x.up(2, 0);
        Check.dueFamily(x, 4);
        Check.dueFamily(x, 9);
    }

    @Sentence(promise = 0, says = "the next UP that is not refused tells another one; pop() leaves it")
    private static void whatLeavesTheFamily() {
        JoinBlocks x = Scenes.blocks();
        x.find(2, 2, 5);
        x.up(2, 0);
        x.up(0, 0);
        x.up(3, 0);
        x.up(2, -1);
        x.up(2, 5);
        Check.dueFamily(x, 4, 0, 3, 2);
        x.pop();
        Check.dueFamily(x, 4, 0, 3, 2);
        x.up(2, 0);
        Check.dueFamily(x, 4, 0, 3, 2);
        x.find(0, 0, 0);
        x.again();
        x.join(0);
        x.down(0);
        x.over();
        Scenes.openOnes(x, 2);
        x.close(40, 0, 0, -1);
        x.kill(41);
        x.drop();
        Check.dueFamily(x, 4, 0, 3, 2);
        Check.dueFamily(x, 13);
        x.find(2, 4, 4);
        x.up(1, 0);
        Check.dueFamily(x, 4, 3);
    }

    @Sentence(promise = 0, says = "merge() and what kills a BLOCK let it go")
    private static void whatLetsTheFamilyGo() {
        JoinBlocks x = Scenes.busy();
        Check.dueFamily(x, 4, 0, 1, 2);
        x.merge();
        Check.due("after merge()", x.family(4, -1), -1);
        x = Scenes.blocks();
        x.find(0, 0, 0);
        x.up(2, 0);
        x.merge();
        Check.due("after merge() without the dead", x.family(4, -1), -1);
        x = Scenes.busy();
        x.kill(30);
        Check.due("after kill", x.family(4, -1), -1);
        x = Scenes.busy();
        x.close(30, 0, 0, -1);
        Check.due("after close with a KEY that is there", x.family(4, -1), -1);
        x.find(0, 0, 0);
        x.up(2, 0);
        Check.due("after an UP anew", x.family(4, -1), 4);
    }

    @Sentence(promise = 0, says = "REFUSALS change nothing")
    private static void refusalsChangeNothing() {
        Check.refused("child, -2", Scenes::fullRow, x -> x.child(-1, 1, 1, 1), -2);
        Check.refused("child, -4", Scenes::fullOpenBlock, x -> x.child(0, 1, 1, 1), -4);
        Check.refused("close, -2", Scenes::fullOpenBlock, x -> x.close(-1, 1, 1, 1), -2);
        Check.refused("close, -4", Scenes::fullRow, x -> x.close(12, 1, 1, 1), -4);
        Check.refused("kill, -1", Scenes::fullRow, x -> x.kill(13), -1);
        Check.refused("object, -1", Scenes::fullRow, x -> x.object(200, 0), -1);
        Check.refused("object, -2", Scenes::fullRow, x -> x.object(199, 8), -2);
        Check.refused("object, -3", Scenes::fullRow, x -> x.object(199, 5), -3);
        Check.refused("count, -2", Scenes::fullRow, x -> x.count(5), -2);
        Check.refused("root, -1", Scenes::fullRow, x -> x.root(13), -1);
        Check.refused("find, -2", Scenes::fullRow, x -> x.find(3, 3, 0), -2);
        Check.refused("find, -4", Scenes::fullStack, x -> x.find(3, 2, 0), -4);
        Check.refused("join, -2", Scenes::fullRow, x -> x.join(3), -2);
        Check.refused("join, -3", Scenes::blocks, x -> x.join(2), -3);
        Check.refused("up, -2", Scenes::fullRow, x -> x.up(2, 5), -2);
        Check.refused("up, -3", Scenes::blocks, x -> x.up(2, 4), -3);
        Check.refused("down, -2", Scenes::fullRow, x -> x.down(2), -2);
        Check.refused("down, -3", Scenes::blocks, x -> x.down(1), -3);
        Check.refused("over, -3", Scenes::blocks, x -> x.over(), -3);
        Check.refused("again, -3", Scenes::blocks, x -> x.again(), -3);
        Check.refused("again, -4", Scenes::fullStack, x -> x.again(), -4);
        Check.refused("pop, -3", Scenes::blocks, x -> x.pop(), -3);
        Check.refused("hit, -3", Scenes::blocks, x -> x.hit(0), -3);
        Check.refused("hit, -1", Scenes::fullRow, x -> x.hit(200), -1);
        Check.refused("score", Scenes::fullRow, x -> x.score(200), NOTHING);
        Check.refused("family, -1", Scenes::fullRow, x -> x.family(200, -1), -1);
        Check.refused("share", Scenes::blocks, Check::share, NOTHING);
    }

    @Sentence(promise = 0, says = "of several the first one here: -1 there is no such object, key, place, "
            + "-2 outside its bounds, -3 as told, -4 no room")
    private static void orderOfRefusals() {
        Check.refused("object: -1 ahead of -2", Scenes::busy, x -> x.object(13, 8), -1);
        Check.refused("child: -2 ahead of -4", Scenes::fullOpenBlock, x -> x.child(2, 0, 0, -1), -2);
        Check.refused("close: -2 ahead of -4", Scenes::fullRow, x -> x.close(1000, 0, 0, -1), -2);
        Check.refused("find: -2 ahead of -4", Scenes::fullStack, x -> x.find(6, 0, 0), -2);
        Check.refused("join: -2 ahead of -3", Scenes::blocks, x -> x.join(3), -2);
        Check.refused("up: -2 ahead of -3", Scenes::blocks, x -> x.up(0, 0), -2);
        Check.refused("down: -2 ahead of -3", Scenes::blocks, x -> x.down(2), -2);
    }

    @Sentence(promise = 0, says = "NOTHING stands for all of them where a long is answered")
    private static void nothingStandsForAll() {
        Check.refused("score without a SET", Scenes::blocks, x -> x.score(0), NOTHING);
        Check.refused("score of no object", Scenes::busy, x -> x.score(-1), NOTHING);
        Check.refused("share without two SETS", Scenes::blocks, Check::share, NOTHING);
        Check.due("NOTHING", JoinBlocks.NOTHING, Long.MIN_VALUE);
    }

    public static void main(String[] args) {
        Check.runAll(TermSentences.class);
    }
}
