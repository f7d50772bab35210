/** Promises 15 to 17 and 34 to 37: versions that are made, merged, taken back, asked and looked through. */
public final class HistoryTest {
    private static final int NONE = TwigPatch.NONE;

    public static void main(String[] args) {
        makes();
        makesWrongly();
        merges();
        mergesOverTheGreatest();
        mergesOverWhatBothHave();
        mergesWhatIsBehind();
        mergesWrongly();
        takesBack();
        takesBackMerges();
        takesBackWrongly();
        tellsTouched();
        tellsTouchedByParents();
        looks();
        looksByHalves();
        looksByFirstParents();
        looksWrongly();
        Check.end();
    }

    private static void makes() {
        Shop x = new Shop();
        int one = Check.grow(x, "0.0");
        int two = Check.grow(x, "0.0");
        Check.is("none yet", x.versions(), 0);
        Check.is("the first", x.version(two, NONE, NONE), 0);
        Check.is("behind it", x.version(one, 0, NONE), 1);
        Check.is("another first", x.version(one, NONE, NONE), 2);
        Check.is("of two", x.version(two, 2, 1), 3);
        Check.is("versions", x.versions(), 4);
        Check.is("tree of 0", x.treeOf(0), two);
        Check.is("tree of 1", x.treeOf(1), one);
        Check.is("tree of 3", x.treeOf(3), two);
        Check.index(x, "treeOf(4)", () -> x.treeOf(4));
        Check.index(x, "treeOf(-1)", () -> x.treeOf(-1));
    }

    private static void makesWrongly() {
        Shop x = new Shop();
        Check.grow(x, "0.0");
        x.version(0, NONE, NONE);
        Check.index(x, "no tree", () -> x.version(1, 0, NONE));
        Check.index(x, "tree -1", () -> x.version(-1, 0, NONE));
        Check.index(x, "no first", () -> x.version(0, 1, NONE));
        Check.index(x, "first -2", () -> x.version(0, -2, NONE));
        Check.index(x, "no second", () -> x.version(0, 0, 1));
        Check.index(x, "second -2", () -> x.version(0, 0, -2));
        Check.index(x, "the index first", () -> x.version(0, NONE, 1));
        Check.index(x, "the index first", () -> x.version(1, 0, 0));
        Check.argument(x, "both the same", () -> x.version(0, 0, 0));
        Check.argument(x, "a second one alone", () -> x.version(0, NONE, 0));
        for (int i = 1; i < 30; i++) {
            Check.is("version", x.version(0, i - 1, NONE), i);
        }
        Check.state(x, "there are 30", () -> x.version(0, NONE, NONE));
        Check.argument(x, "the argument first", () -> x.version(0, 3, 3));
        Check.index(x, "the index first", () -> x.version(0, 30, NONE));
        Check.is("versions", x.versions(), 30);
    }

    private static void merges() {
        Shop x = new Shop();
        x.version(Check.grow(x, "0.0(1.1 1.2)"), NONE, NONE);
        x.set(1, 8);
        x.version(x.seal(), 0, NONE);
        x.copy(0);
        x.set(2, 9);
        x.set(1, 7);
        x.version(x.seal(), 0, NONE);
        Check.is("the number", x.mergeVersions(1, 2), 3);
        Check.is("its tree", x.treeOf(3), 3);
        Check.tree("merged", x, 3, "0:0(1:1 2:9)");
        Check.is("conflicts", Check.conflicts(x), "VALUE 1");
        x.setPolicy(TwigPatch.VALUE, TwigPatch.LEFT);
        x.mergeVersions(1, 2);
        Check.tree("by the left one", x, x.treeOf(4), "0:0(1:8 2:9)");
        x.mergeVersions(2, 1);
        Check.tree("by the other one, now left", x, x.treeOf(5), "0:0(1:7 2:9)");
        // Both are parents: the merged one is touched by none but itself and what came of them.
        Check.is("by the first parent", x.touched(4, 1), 1);
        Check.is("by the second parent", x.touched(4, 2), 2);
        Check.is("the last but one", x.touched(3, 1), 3);
        Check.is("the left one is the first parent", x.look(2, 5, 1, 7), 2);
        Check.is("the left one is the first parent", x.look(1, 4, 1, 8), 1);
    }

    private static void mergesOverTheGreatest() {
        Shop x = new Shop();
        x.version(Check.grow(x, "0.0(1.1)"), NONE, NONE);
        x.set(1, 2);
        x.version(x.seal(), 0, NONE);
        x.set(1, 3);
        x.version(x.seal(), 1, NONE);
        x.copy(1);
        x.set(0, 9);
        x.version(x.seal(), 1, NONE);
        // Over 1, and not over 0: so 3 has not changed the value of the mark 1.
        x.mergeVersions(2, 3);
        Check.tree("over the greatest", x, x.treeOf(4), "0:9(1:3)");
        Check.is("conflicts", x.conflicts(), 0);
        // By second parents, too: of 0, 1 and 3, the greatest is 3.
        x.copy(0);
        x.version(x.seal(), 0, 3);
        x.copy(3);
        x.set(1, 4);
        x.version(x.seal(), 3, NONE);
        x.mergeVersions(5, 6);
        Check.tree("over 3", x, x.treeOf(7), "0:0(1:2)");
        Check.is("conflicts", Check.conflicts(x), "VALUE 1");
    }

    private static void mergesOverWhatBothHave() {
        Shop x = new Shop();
        x.version(Check.grow(x, "0.0(1.1)"), NONE, NONE);
        x.set(1, 2);
        x.version(x.seal(), 0, NONE);
        x.version(1, 0, NONE);
        x.set(1, 3);
        x.version(x.seal(), 1, NONE);
        // 3 comes behind 1, but 2 does not: over 0 both have changed the value.
        x.mergeVersions(2, 3);
        Check.is("conflicts", Check.conflicts(x), "VALUE 1");
        x.mergeVersions(3, 2);
        Check.is("conflicts", Check.conflicts(x), "VALUE 1");
        Check.tree("by the base", x, x.treeOf(5), "0:0(1:1)");
    }

    private static void mergesWhatIsBehind() {
        Shop x = new Shop();
        x.version(Check.grow(x, "0.0(1.1)"), NONE, NONE);
        x.set(1, 2);
        x.version(x.seal(), 0, NONE);
        x.set(1, 1);
        x.version(x.seal(), 1, NONE);
        // The base is the earlier one itself.
        Check.is("number", x.mergeVersions(2, 1), 3);
        Check.tree("the later one", x, x.treeOf(3), "0:0(1:1)");
        Check.is("number", x.mergeVersions(1, 2), 4);
        Check.tree("the later one", x, x.treeOf(4), "0:0(1:1)");
        Check.is("conflicts", x.conflicts(), 0);
    }

    private static void mergesWrongly() {
        Shop x = new Shop();
        x.version(Check.grow(x, "0.0"), NONE, NONE);
        x.version(0, NONE, NONE);
        x.version(Check.grow(x, "0.0"), 0, NONE);
        x.version(0, 0, NONE);
        Check.index(x, "no left", () -> x.mergeVersions(4, 0));
        Check.index(x, "no right", () -> x.mergeVersions(0, 4));
        Check.index(x, "left -1", () -> x.mergeVersions(-1, 0));
        Check.index(x, "the index first", () -> x.mergeVersions(4, 4));
        Check.argument(x, "both the same", () -> x.mergeVersions(1, 1));
        Check.state(x, "no base", () -> x.mergeVersions(0, 1));
        Check.state(x, "unlike roots", () -> x.mergeVersions(3, 2));
        Check.state(x, "unlike roots", () -> x.mergeVersions(2, 0));
        x.version(0, 0, NONE);
        for (int i = 5; i < 30; i++) {
            Check.is("merge", x.mergeVersions(3, i - 1), i);
        }
        Check.state(x, "there are 30 versions", () -> x.mergeVersions(3, 4));
        Check.argument(x, "the argument first", () -> x.mergeVersions(3, 3));
        Check.state(x, "there are 30 versions", () -> x.takeBack(3, 5));
        fullOfTrees();
    }

    private static void fullOfTrees() {
        Shop x = new Shop();
        x.version(Check.grow(x, "0.0"), NONE, NONE);
        x.version(0, 0, NONE);
        x.version(0, 1, NONE);
        for (int i = 1; i < 40; i++) {
            x.seal();
        }
        Check.state(x, "there are 40 trees", () -> x.mergeVersions(0, 1));
        Check.argument(x, "the argument first", () -> x.mergeVersions(1, 1));
        Check.state(x, "there are 40 trees", () -> x.takeBack(1, 2));
        Check.is("a version needs no new tree", x.version(39, 1, NONE), 3);
    }

    private static void takesBack() {
        Shop x = new Shop();
        x.version(Check.grow(x, "0.0(1.1 1.2 1.3)"), NONE, NONE);
        x.set(1, 9);
        x.drop(3);
        x.version(x.seal(), 0, NONE);
        x.set(2, 8);
        x.version(x.seal(), 1, NONE);
        Check.is("the number", x.takeBack(1, 2), 3);
        Check.is("its tree", x.treeOf(3), 3);
        Check.tree("without the first change", x, 3, "0:0(1:1 2:8 3:3)");
        Check.is("conflicts", x.conflicts(), 0);
        Check.is("the head is its parent", x.touched(3, 2), 2);
        Check.is("what was taken back is touched anew", x.touched(3, 1), 3);
        Check.is("back once more", x.takeBack(3, x.version(x.treeOf(3), 3, NONE)), 5);
        Check.tree("all is there again", x, x.treeOf(5), "0:0(1:9 2:8)");
        x.copy(2);
        x.set(1, 7);
        x.version(x.seal(), 2, NONE);
        // Left is the head, right the parent of the one taken back, the base that one itself.
        x.setPolicy(TwigPatch.VALUE, TwigPatch.LEFT);
        x.takeBack(1, 6);
        Check.is("conflicts", Check.conflicts(x), "VALUE 1");
        Check.tree("by the head", x, x.treeOf(7), "0:0(1:7 2:8 3:3)");
        x.setPolicy(TwigPatch.VALUE, TwigPatch.RIGHT);
        x.takeBack(1, 6);
        Check.tree("by the parent", x, x.treeOf(8), "0:0(1:1 2:8 3:3)");
        x.setPolicy(TwigPatch.VALUE, TwigPatch.NEITHER);
        x.takeBack(1, 6);
        Check.tree("by the one taken back", x, x.treeOf(9), "0:0(1:9 2:8 3:3)");
        Check.is("it has no second parent", x.touched(9, 1), 9);
    }

    private static void takesBackMerges() {
        Shop x = new Shop();
        x.version(Check.grow(x, "0.0(1.1 1.2)"), NONE, NONE);
        x.set(1, 8);
        x.version(x.seal(), 0, NONE);
        x.copy(0);
        x.set(2, 9);
        x.version(x.seal(), 0, NONE);
        x.mergeVersions(1, 2);
        x.version(x.treeOf(3), 0, 3);
        // Head comes behind by its second parent; and what is taken back is what the first parent has not.
        x.takeBack(3, 4);
        Check.tree("without the second one", x, x.treeOf(5), "0:0(1:8 2:2)");
    }

    private static void takesBackWrongly() {
        Shop x = new Shop();
        x.version(Check.grow(x, "0.0"), NONE, NONE);
        x.version(0, 0, NONE);
        x.version(0, 0, NONE);
        x.version(Check.grow(x, "0.0"), 1, NONE);
        Check.index(x, "no version", () -> x.takeBack(4, 0));
        Check.index(x, "no head", () -> x.takeBack(0, 4));
        Check.index(x, "version -1", () -> x.takeBack(-1, 0));
        Check.index(x, "head -1", () -> x.takeBack(1, -1));
        Check.state(x, "no parents", () -> x.takeBack(0, 1));
        Check.state(x, "head is not behind", () -> x.takeBack(1, 2));
        Check.state(x, "head is ahead", () -> x.takeBack(1, 0));
        Check.state(x, "head is the version", () -> x.takeBack(1, 1));
        Check.state(x, "unlike roots", () -> x.takeBack(1, 3));
        Check.is("versions", x.versions(), 4);
    }

    private static void tellsTouched() {
        Shop x = new Shop();
        x.version(Check.grow(x, "0.0(1.1 1.2 1.3)"), NONE, NONE);
        x.set(1, 9);
        x.version(x.seal(), 0, NONE);
        x.move(2, 1, 0);
        x.node(3, 0, 1, 4, NONE);
        x.version(x.seal(), 1, NONE);
        x.move(3, 0, 0);
        x.drop(4);
        x.set(1, 1);
        x.version(x.seal(), 2, NONE);
        int[] roots = {0, 0, 0, 0};
        int[] ones = {0, 1, 1, 3};
        int[] twos = {0, 0, 2, 2};
        int[] threes = {0, 0, 0, 0};
        int[] fours = {NONE, NONE, 2, NONE};
        for (int version = 0; version < 4; version++) {
            Check.is("the root", x.touched(version, 0), roots[version]);
            Check.is("by values, though as once before", x.touched(version, 1), ones[version]);
            Check.is("by parents", x.touched(version, 2), twos[version]);
            Check.is("not by places", x.touched(version, 3), threes[version]);
            Check.is("as it comes", x.touched(version, 4), fours[version]);
        }
        Check.index(x, "no version", () -> x.touched(4, 0));
        Check.index(x, "version -1", () -> x.touched(-1, 0));
        Check.index(x, "no mark", () -> x.touched(0, 5));
        Check.index(x, "mark -1", () -> x.touched(0, -1));
    }

    private static void tellsTouchedByParents() {
        Shop x = new Shop();
        int one = Check.grow(x, "0.0(1.1)");
        x.set(1, 5);
        int five = x.seal();
        x.version(one, NONE, NONE);
        x.version(five, 0, NONE);
        x.version(five, 0, NONE);
        x.version(one, 0, NONE);
        // To the first parent, if that has the same; otherwise to the second one.
        Check.is("the first", x.touched(x.version(five, 1, 2), 1), 1);
        Check.is("the first", x.touched(x.version(five, 2, 1), 1), 2);
        Check.is("the second", x.touched(x.version(five, 3, 2), 1), 2);
        Check.is("neither", x.touched(x.version(one, 1, 2), 1), 7);
        Check.is("further back", x.touched(x.version(five, 7, 6), 1), 2);
    }

    private static void looks() {
        Shop x = new Shop();
        x.version(Check.grow(x, "0.0(1.1)"), NONE, NONE);
        for (int i = 1; i < 6; i++) {
            x.set(1, i < 3 ? 1 : 7);
            x.set(0, i);
            x.version(x.seal(), i - 1, NONE);
        }
        Check.is("the first with 7", x.look(0, 5, 1, 7), 3);
        Check.is("from there", x.look(3, 5, 1, 7), 3);
        Check.is("from behind there", x.look(4, 5, 1, 7), 4);
        Check.is("up to there", x.look(0, 3, 1, 7), 3);
        Check.is("not yet", x.look(0, 2, 1, 7), NONE);
        Check.is("another kind", x.look(0, 5, 0, 7), NONE);
        Check.is("never", x.look(0, 5, 1, 99), NONE);
        Check.is("one version", x.look(2, 2, 1, 1), 2);
        Check.is("one version without", x.look(2, 2, 1, 7), NONE);
        Check.is("a value of the root", x.look(0, 5, 0, 5), 5);
    }

    /** What is there just for a while is found or not as the middle ones tell. */
    private static void looksByHalves() {
        Shop x = new Shop();
        int without = Check.grow(x, "0.0");
        x.set(0, 1);
        int with = x.seal();
        int[] trees = {without, with, without, with, without, without, with, without};
        for (int i = 0; i < trees.length; i++) {
            x.version(trees[i], i - 1, NONE);
        }
        // 0 to 7: 3 has it; 0 to 3: 1 has it; 0 to 1: 0 has not.
        Check.is("0 to 7", x.look(0, 7, 0, 1), 1);
        // 0 to 4: 2 has not; 3 to 4: 3 has it.
        Check.is("0 to 4", x.look(0, 4, 0, 1), 3);
        // 1 to 5: 3 has it; 1 to 3: 2 has not; 3 is left.
        Check.is("1 to 5", x.look(1, 5, 0, 1), 3);
        // 2 to 7: 4 has not; 5 to 7: 6 has it; 5 to 6: 5 has not.
        Check.is("2 to 7", x.look(2, 7, 0, 1), 6);
        // 1 to 2: 1 has it.
        Check.is("1 to 2", x.look(1, 2, 0, 1), 1);
        // 0 to 2: 1 has it; 0 to 1: 0 has not.
        Check.is("0 to 2", x.look(0, 2, 0, 1), 1);
        // 1 to 7: 4 has not; 5 to 7: 6 has it; 6 is left, of 5 and 6.
        Check.is("1 to 7", x.look(1, 7, 0, 1), 6);
        // 4 to 7: 5 has not; 6 to 7: 6 has it.
        Check.is("4 to 7", x.look(4, 7, 0, 1), 6);
        // 3 to 5: 4 has not; 5 is left, and has not.
        Check.is("3 to 5", x.look(3, 5, 0, 1), NONE);
    }

    private static void looksByFirstParents() {
        Shop x = new Shop();
        int without = Check.grow(x, "0.0");
        x.set(0, 1);
        int with = x.seal();
        x.version(without, NONE, NONE);
        x.version(with, 0, NONE);
        x.version(without, 0, NONE);
        x.version(with, 2, 1);
        Check.is("past the second parent", x.look(0, 3, 0, 1), 3);
        Check.state(x, "by the second parent", () -> x.look(1, 3, 0, 1));
        Check.state(x, "the wrong way", () -> x.look(3, 0, 0, 1));
        Check.state(x, "beside it", () -> x.look(1, 2, 0, 1));
    }

    private static void looksWrongly() {
        Shop x = new Shop();
        int tree = Check.grow(x, "5.99");
        x.version(tree, NONE, NONE);
        x.version(tree, NONE, NONE);
        Check.is("at the upper ends", x.look(0, 0, 5, 99), 0);
        Check.index(x, "no from", () -> x.look(2, 0, 0, 0));
        Check.index(x, "no to", () -> x.look(0, 2, 0, 0));
        Check.index(x, "from -1", () -> x.look(-1, 0, 0, 0));
        Check.index(x, "to -1", () -> x.look(0, -1, 0, 0));
        Check.index(x, "the index first", () -> x.look(0, 2, 6, 0));
        Check.argument(x, "kind -1", () -> x.look(0, 0, -1, 0));
        Check.argument(x, "kind 6", () -> x.look(0, 0, 6, 0));
        Check.argument(x, "value -1", () -> x.look(0, 0, 0, -1));
        Check.argument(x, "value 100", () -> x.look(0, 0, 0, 100));
        Check.argument(x, "the argument first", () -> x.look(0, 1, 6, 0));
        Check.state(x, "not reached", () -> x.look(0, 1, 0, 0));
    }
}
