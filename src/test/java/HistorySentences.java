import java.util.function.Supplier;

/** What the document says of versions: a test for each sentence. */
final class HistorySentences {
    private static final int NONE = TwigPatch.NONE;

    private HistorySentences() {
    }

    static void check() {
        numbers();
        behind();
        touchedBy();
        mergedVersions();
        takenBack();
        lookedFor();
        version();
        mergeVersions();
        takeBack();
        versions();
        treeOf();
        touched();
        look();
    }

    private static void history(String words, Runnable test) {
        Sentences.holds("History", words, test);
    }

    /** Trees of the root 0 alone, with the values 0, 1 and so on. */
    private static Shop valued(int trees) {
        Shop x = new Shop();
        x.begin(0, 0, NONE);
        for (int value = 0; value < trees; value++) {
            x.set(0, value);
            x.seal();
        }
        return x;
    }

    /** Versions of these trees, each with the one ahead as its parent. */
    private static Shop chain(int trees, int... of) {
        Shop x = valued(trees);
        for (int i = 0; i < of.length; i++) {
            x.version(of[i], i - 1, NONE);
        }
        return x;
    }

    // ---- the terms

    private static void numbers() {
        history("Versions are numbered from 0, at most 30", () -> {
            for (int way = 0; way < 3; way++) {
                Shop x = chain(1, 0, 0, 0);
                x.version(0, 0, NONE);
                for (int version = 4; version < 29; version++) {
                    Check.is("a version", x.version(0, NONE, NONE), version);
                }
                int last = way;
                Check.is("the 30th, by way " + way, make(x, last), 29);
                for (int more = 0; more < 3; more++) {
                    int one = more;
                    Check.state(x, "one more, by way " + more, () -> make(x, one));
                }
                Check.is("how many", x.versions(), 30);
                Check.is("the last has a tree", x.treeOf(29) >= 0, true);
                Check.index(x, "version 30", () -> x.treeOf(30));
            }
        });
        history("a version is of a tree, and has up to two earlier versions, its parents.", () -> {
            Shop x = valued(3);
            Check.is("with none", x.version(2, NONE, NONE), 0);
            Check.is("with one", x.version(1, 0, NONE), 1);
            Check.is("with two", x.version(0, 1, 0), 2);
            Check.is("with two the other way", x.version(0, 0, 1), 3);
            Check.is("of one tree twice", x.version(0, 2, 3), 4);
            Check.is("its tree", x.treeOf(0), 2);
            Check.index(x, "a parent that is not earlier", () -> x.version(0, 5, NONE));
            Check.index(x, "a second parent that is not earlier", () -> x.version(0, 0, 5));
            Check.is("the first parent", x.look(1, 2, 0, 0), 2);
            Check.state(x, "not the second", () -> x.look(1, 3, 0, 0));
        });
    }

    private static int make(Shop x, int way) {
        return way == 0 ? x.version(0, NONE, NONE) : way == 1 ? x.mergeVersions(1, 3) : x.takeBack(1, 2);
    }

    private static void behind() {
        history("The versions behind which a version comes are its parents, theirs, and so on.", () -> {
            Shop x = valued(1);
            // 0 < 1 < 2 < 3, 4 beside it, 5 behind 4 and 2, 6 behind 5.
            x.version(0, NONE, NONE);
            x.version(0, 0, NONE);
            x.version(0, 1, NONE);
            x.version(0, 2, NONE);
            x.version(0, 0, NONE);
            x.version(0, 4, 2);
            x.version(0, 5, NONE);
            boolean[][] behind = {
                {false, true, true, true, true, true, true},
                {false, false, true, true, false, true, true},
                {false, false, false, true, false, true, true},
                {false, false, false, false, false, false, false},
                {false, false, false, false, false, true, true},
                {false, false, false, false, false, false, true},
                {false, false, false, false, false, false, false}};
            for (int version = 1; version < 7; version++) {
                for (int head = 0; head < 7; head++) {
                    int one = version;
                    int other = head;
                    if (behind[one][other]) {
                        Check.is(other + " behind " + one, x.outcome(() -> x.takeBack(one, other)), 7);
                    } else {
                        Check.state(x, other + " not behind " + one, () -> x.takeBack(one, other));
                    }
                }
            }
        });
    }

    private static void touchedBy() {
        history("A node was touched by a version that has no parents, if that has it", () -> {
            Shop x = new Shop();
            int one = Check.grow(x, "0.0(1.1)");
            int two = Check.grow(x, "0.0");
            x.version(one, NONE, NONE);
            x.version(two, NONE, NONE);
            x.version(one, NONE, NONE);
            Check.is("the root", x.touched(0, 0), 0);
            Check.is("a child", x.touched(0, 1), 0);
            Check.is("a version that has it not", x.touched(1, 1), NONE);
            Check.is("its own", x.touched(1, 2), 1);
            Check.is("though another one has it, too", x.touched(2, 1), 2);
        });
        history("by another one, if none of its parents has the mark with the same value and the same parent.", () -> {
            Shop x = new Shop();
            int one = Check.grow(x, "0.0(1.1 1.2 1.3)");
            x.version(one, NONE, NONE);
            x.set(1, 9);
            x.move(2, 3, 0);
            x.move(3, 0, 0);
            x.node(0, 0, 1, 4, NONE);
            int two = x.seal();
            x.version(two, 0, NONE);
            Check.is("another value", x.touched(1, 1), 1);
            Check.is("another parent", x.touched(1, 2), 1);
            Check.is("another place under the same parent", x.touched(1, 3), 0);
            Check.is("a new one", x.touched(1, 4), 1);
            Check.is("the root", x.touched(1, 0), 0);
            x.version(two, 0, 1);
            Check.is("as in the second parent", x.touched(2, 1), 1);
            x.set(1, 8);
            x.version(x.seal(), 0, 1);
            Check.is("as in neither", x.touched(3, 1), 3);
            Check.is("gone, and there again", x.touched(x.version(one, x.version(Check.grow(x, "0.0"), 0, NONE), NONE), 1), 5);
        });
        history("The one that touched a mark last, as of a version, is found by going from there back, as long as a parent has"
                + " the mark with the same value and parent: to the first parent, if that has, otherwise to the second one.", () -> {
            Shop x = chain(2, 0, 1, 1, 0, 0, 1);
            int[] due = {0, 1, 1, 3, 3, 5};
            for (int version = 0; version < due.length; version++) {
                Check.is("as of " + version, x.touched(version, 0), due[version]);
            }
            Check.is("to the first", x.touched(x.version(1, 1, 5), 0), 1);
            Check.is("to the first", x.touched(x.version(1, 5, 1), 0), 5);
            Check.is("to the second", x.touched(x.version(1, 4, 5), 0), 5);
            Check.is("to the second, and on", x.touched(x.version(1, 0, 6), 0), 1);
            Check.is("to neither", x.touched(x.version(1, 0, 3), 0), 10);
            Shop y = chain(1, new int[30]);
            Check.is("from 29 back to 0", y.touched(29, 0), 0);
        });
    }

    private static void mergedVersions() {
        history("To merge two versions is to merge their trees over that of their base: the greatest version of those that both"
                + " are, or come behind", () -> {
            Shop x = chain(5, 0, 1);
            x.version(2, 1, NONE);
            x.version(3, 1, NONE);
            x.mergeVersions(2, 3);
            Check.is("over 1", x.value(x.treeOf(4), 0), 1);
            // 5 comes behind 0 alone, with a number above that of 1.
            x.version(4, 0, NONE);
            x.mergeVersions(2, 5);
            Check.is("over 0", x.value(x.treeOf(6), 0), 0);
            // A version that one of them is.
            x.mergeVersions(3, 1);
            Check.is("over 1, which has changed nothing", x.value(x.treeOf(7), 0), 3);
            Check.is("conflicts", x.conflicts(), 0);
            x.mergeVersions(0, 3);
            Check.is("over 0", x.value(x.treeOf(8), 0), 3);
            // By second parents, too; of 0, 1 and 3 the greatest.
            x.version(2, 0, 3);
            x.version(4, 3, NONE);
            x.mergeVersions(9, 10);
            Check.is("over 3", x.value(x.treeOf(11), 0), 3);
            // That which is reached through one that is not reached does not count.
            Shop y = valued(4);
            y.version(0, NONE, NONE);
            y.version(1, 0, NONE);
            y.version(1, 1, NONE);
            y.version(2, 0, NONE);
            y.version(3, 1, NONE);
            y.mergeVersions(3, 4);
            Check.is("over 0", y.value(y.treeOf(5), 0), 0);
        });
        history("it makes a version with both as parents.", () -> {
            Shop x = chain(3, 0, 1);
            x.version(2, 0, NONE);
            x.setPolicy(TwigPatch.VALUE, TwigPatch.RIGHT);
            Check.is("the number", x.mergeVersions(1, 2), 3);
            Check.is("its tree", x.treeOf(3), 3);
            Check.is("the left one is the first", x.look(1, 3, 0, 1), 1);
            Check.state(x, "the right one is the second", () -> x.look(2, 3, 0, 1));
            Check.is("it comes behind the second", x.touched(3, 0), 2);
            Check.is("so it can be taken back", x.takeBack(2, 3), 4);
        });
    }

    private static void takenBack() {
        history("To take a version back, as of another one that comes behind it, is to merge the tree of that (left), and that of"
                + " the first parent of the one taken back (right), over that of the one taken back", () -> {
            Shop x = new Shop();
            int one = Check.grow(x, "0.0(1.1 1.2 1.3)");
            x.version(one, NONE, NONE);
            x.set(1, 10);
            x.drop(3);
            x.version(x.seal(), 0, NONE);
            x.set(2, 20);
            x.version(x.seal(), 1, NONE);
            x.takeBack(1, 2);
            Check.tree("without what 1 changed", x, x.treeOf(3), "0:0(1:1 2:20 3:3)");
            x.set(1, 11);
            x.version(x.seal(), 2, NONE);
            int[] due = {10, 11, 1};
            for (int policy = 0; policy < 3; policy++) {
                x.setPolicy(TwigPatch.VALUE, policy);
                int version = x.takeBack(1, 4);
                Check.is("conflicts", Check.conflicts(x), "VALUE 1");
                Check.is("by policy " + policy, x.value(x.treeOf(version), 1), due[policy]);
            }
            // The first parent counts, though the second one has another tree.
            Shop y = chain(3, 0, 1);
            y.version(2, 0, NONE);
            y.version(0, 2, 1);
            y.version(0, 3, NONE);
            y.takeBack(3, 4);
            Check.is("as the first parent has it", y.value(y.treeOf(5), 0), 2);
        });
        history("it makes a version with the other one as its parent.", () -> {
            Shop x = chain(3, 0, 1, 2);
            Check.is("the number", x.takeBack(1, 2), 3);
            Check.is("its tree", x.treeOf(3), 3);
            Check.is("its first parent", x.look(2, 3, 0, 2), 2);
            Check.is("as of it", x.look(0, 3, 0, 1), 1);
            Check.is("touched anew", x.touched(3, 0), 3);
            Check.is("it can be taken back itself", x.takeBack(3, x.version(3, 3, NONE)), 5);
            // It has no second one: that 0 has this value, too, is nothing to it.
            x.setPolicy(TwigPatch.VALUE, TwigPatch.RIGHT);
            int back = x.takeBack(1, 2);
            Check.is("as 0 has it", x.value(x.treeOf(back), 0), 0);
            Check.is("touched anew", x.touched(back, 0), back);
        });
    }

    private static void lookedFor() {
        history("To look for a value of a kind from one version to another one, which is reached from the other one by first"
                + " parents, is to find the first of these versions, from the earlier one on, in which there is a node of this kind"
                + " with this value, by halves: at first all are possible", () -> {
            Shop x = chain(2, 0, 0, 0, 1, 1, 1);
            Check.is("the first of all", x.look(0, 5, 0, 1), 3);
            Check.is("from there", x.look(3, 5, 0, 1), 3);
            Check.is("from behind there", x.look(4, 5, 0, 1), 4);
            Check.is("to there", x.look(0, 3, 0, 1), 3);
            Check.is("to ahead of there", x.look(0, 2, 0, 1), NONE);
            Check.is("one alone", x.look(3, 3, 0, 1), 3);
            Check.is("one alone without", x.look(2, 2, 0, 1), NONE);
            // The versions of second parents are none of these.
            x.version(1, 2, 3);
            Check.is("past the second parent", x.look(0, 6, 0, 1), 6);
            Check.state(x, "to a second parent", () -> x.look(3, 6, 0, 1));
        });
        history("as long as more than one is, the one in the middle, of an even number the earlier one, is looked at: if there is"
                + " such a node, it and those ahead of it are possible still, otherwise those behind it.", () -> {
            // What is there for a while alone tells which ones are looked at.
            for (int length = 1; length <= 9; length++) {
                for (int at = 0; at < length; at++) {
                    int[] of = new int[length];
                    of[at] = 1;
                    Shop x = chain(2, of);
                    Check.is("of " + length + ", at " + at + " alone", x.look(0, length - 1, 0, 1), firstByHalves(of));
                }
            }
            Shop x = chain(2, 1, 0, 1, 0, 0, 1, 0, 1);
            Check.is("0 to 7", x.look(0, 7, 0, 1), 5);
            Check.is("0 to 6", x.look(0, 6, 0, 1), 5);
            Check.is("0 to 4", x.look(0, 4, 0, 1), 2);
            Check.is("0 to 2", x.look(0, 2, 0, 1), 2);
            Check.is("0 to 1", x.look(0, 1, 0, 1), 0);
            Check.is("1 to 3", x.look(1, 3, 0, 1), 2);
            Check.is("2 to 5", x.look(2, 5, 0, 1), 5);
            int[] all = new int[30];
            all[29] = 1;
            Check.is("the last of 30", chain(2, all).look(0, 29, 0, 1), 29);
            all[0] = 1;
            Check.is("the first of 30 is not looked at", chain(2, all).look(0, 29, 0, 1), 29);
        });
    }

    /** The document's words, for versions of which just some have the node. */
    private static int firstByHalves(int[] has) {
        int low = 0;
        int high = has.length - 1;
        while (low < high) {
            int count = high - low + 1;
            int middle = count % 2 == 0 ? low + count / 2 - 1 : low + count / 2;
            if (has[middle] == 1) {
                high = middle;
            } else {
                low = middle + 1;
            }
        }
        return has[low] == 1 ? low : NONE;
    }

    // ---- promises

    private static void version() {
        Sentences.promise(15, "Makes a version.", () -> {
            Shop x = valued(2);
            x.version(1, NONE, NONE);
            Check.is("how many", x.versions(), 1);
            Check.is("its tree", x.treeOf(0), 1);
            Check.is("no tree is made", x.trees(), 2);
        });
        Sentences.promise(15, "tree: its tree", () -> {
            Shop x = valued(40);
            Check.is("the last", x.treeOf(x.version(39, NONE, NONE)), 39);
            Check.is("the first", x.treeOf(x.version(0, NONE, NONE)), 0);
            Check.is("the last once more", x.treeOf(x.version(39, 0, NONE)), 39);
            Check.indexes(x, "tree", 0, 39, i -> x.version(i, NONE, NONE));
        });
        Sentences.promise(15, "first: its first parent; NONE for none", () -> {
            Shop x = chain(2, 0, 1);
            Check.indexes(x, "first", -1, 1, i -> x.version(0, i, NONE));
            Check.is("none", x.version(0, NONE, NONE), 2);
            Check.is("the last", x.version(1, 2, NONE), 3);
            Check.is("it is this", x.look(2, 3, 0, 0), 2);
            Check.state(x, "none is this", () -> x.look(1, 2, 0, 0));
            Check.is("the first of all", x.version(0, 0, NONE), 4);
        });
        Sentences.promise(15, "second: its second parent; NONE for none", () -> {
            Shop x = chain(2, 0, 1);
            Check.indexes(x, "second", -1, 1, i -> x.version(0, 0, i));
            Check.is("none", x.version(1, 0, NONE), 2);
            Check.is("none has touched it", x.touched(2, 0), 2);
            Check.is("the last but one", x.version(1, 0, 1), 3);
            Check.is("it has touched it", x.touched(3, 0), 1);
            Check.is("the first of all", x.version(0, 1, 0), 4);
            Check.is("it has touched it", x.touched(4, 0), 0);
        });
        Sentences.promise(15, "Returns the number of the version.", () -> {
            Shop x = valued(1);
            for (int version = 0; version < 30; version++) {
                Check.is("the number", x.version(0, version - 1, NONE), version);
            }
        });
        Sentences.promise(15, "Throws IndexOutOfBoundsException if there is no such tree or version", () -> {
            Shop x = new Shop();
            Check.index(x, "none at all", () -> x.version(0, NONE, NONE));
            x.begin(0, 0, NONE);
            x.seal();
            Check.index(x, "no version yet", () -> x.version(0, 0, NONE));
            Check.index(x, "no version yet", () -> x.version(0, NONE, 0));
            Check.index(x, "no version yet", () -> x.version(0, 0, 0));
            x.version(0, NONE, NONE);
            Check.index(x, "no tree, and the parents wrong", () -> x.version(1, 0, 0));
            Check.index(x, "no tree, and a second parent alone", () -> x.version(-1, NONE, 0));
            Check.index(x, "no second parent, and it alone", () -> x.version(0, NONE, 1));
            Check.index(x, "no parents, and the same", () -> x.version(0, 1, 1));
            Check.index(x, "parents -2", () -> x.version(0, -2, -2));
            for (int version = 1; version < 30; version++) {
                x.version(0, NONE, NONE);
            }
            Check.index(x, "the index first", () -> x.version(0, 30, NONE));
            Check.index(x, "the index first", () -> x.version(1, 0, NONE));
        });
        Sentences.promise(15, "Throws IllegalArgumentException if there is a second parent without a first one, or both are the same", () -> {
            Shop x = chain(1, 0, 0);
            Check.argument(x, "a second one alone", () -> x.version(0, NONE, 0));
            Check.argument(x, "a second one alone", () -> x.version(0, NONE, 1));
            Check.argument(x, "the same", () -> x.version(0, 0, 0));
            Check.argument(x, "the same", () -> x.version(0, 1, 1));
            Check.is("none and none are no parents", x.version(0, NONE, NONE), 2);
            for (int version = 3; version < 30; version++) {
                x.version(0, 0, 1);
            }
            Check.argument(x, "the argument first", () -> x.version(0, 29, 29));
            Check.argument(x, "the argument first", () -> x.version(0, NONE, 29));
        });
        Sentences.promise(15, "Throws IllegalStateException if there are 30", () -> {
            Shop x = valued(1);
            for (int version = 0; version < 29; version++) {
                x.version(0, NONE, NONE);
            }
            Check.is("the 30th", x.version(0, 28, 27), 29);
            Check.state(x, "one more", () -> x.version(0, NONE, NONE));
            Check.state(x, "one more behind the last", () -> x.version(0, 29, NONE));
        });
    }

    private static void mergeVersions() {
        Sentences.promise(16, "Merges two versions.", () -> {
            Shop x = new Shop();
            x.version(Check.grow(x, "0.0(1.1 1.2)"), NONE, NONE);
            x.set(1, 10);
            x.version(x.seal(), 0, NONE);
            x.copy(0);
            x.set(2, 20);
            x.version(x.seal(), 0, NONE);
            x.mergeVersions(1, 2);
            Check.tree("merged", x, x.treeOf(3), "0:0(1:10 2:20)");
            Check.tree("the left one stays", x, x.treeOf(1), "0:0(1:10 2:2)");
            Check.tree("the right one stays", x, x.treeOf(2), "0:0(1:1 2:20)");
        });
        Sentences.promise(16, "left: a version", () -> {
            Shop x = forked();
            Check.indexes(x, "left", 0, 2, i -> x.mergeVersions(i, 0));
            x.setPolicy(TwigPatch.VALUE, TwigPatch.LEFT);
            Check.is("it is left", x.value(x.treeOf(x.mergeVersions(2, 1)), 0), 2);
            Check.is("the first of all", x.value(x.treeOf(x.mergeVersions(0, 1)), 0), 1);
        });
        Sentences.promise(16, "right: another one", () -> {
            Shop x = forked();
            Check.indexes(x, "right", 0, 2, i -> x.mergeVersions(0, i));
            x.setPolicy(TwigPatch.VALUE, TwigPatch.RIGHT);
            Check.is("it is right", x.value(x.treeOf(x.mergeVersions(1, 2)), 0), 2);
            Check.is("the first of all", x.value(x.treeOf(x.mergeVersions(1, 0)), 0), 1);
        });
        Sentences.promise(16, "Returns the number of the version that comes of it.", () -> {
            Shop x = forked();
            for (int version = 3; version < 30; version++) {
                Check.is("the number", x.mergeVersions(1, 2), version);
                Check.is("how many", x.versions(), version + 1);
            }
        });
        Sentences.promise(16, "Throws IndexOutOfBoundsException if there are no such versions", () -> {
            Shop x = new Shop();
            Check.index(x, "none at all", () -> x.mergeVersions(0, 0));
            Shop y = forked();
            Check.index(y, "no left one", () -> y.mergeVersions(3, 0));
            Check.index(y, "no right one", () -> y.mergeVersions(0, 3));
            Check.index(y, "neither, and the same", () -> y.mergeVersions(3, 3));
            Check.index(y, "NONE", () -> y.mergeVersions(NONE, NONE));
            for (int version = 3; version < 30; version++) {
                y.version(0, NONE, NONE);
            }
            Check.index(y, "the index first", () -> y.mergeVersions(0, 30));
        });
        Sentences.promise(16, "Throws IllegalArgumentException if both are the same", () -> {
            Shop x = forked();
            for (int version = 0; version < 3; version++) {
                int both = version;
                Check.argument(x, "version " + version, () -> x.mergeVersions(both, both));
            }
            for (int tree = 3; tree < 40; tree++) {
                x.seal();
            }
            Check.argument(x, "the argument first, without room for a tree", () -> x.mergeVersions(1, 1));
            for (int version = 3; version < 30; version++) {
                x.version(0, NONE, NONE);
            }
            Check.argument(x, "the argument first, without room for a version", () -> x.mergeVersions(29, 29));
        });
        Sentences.promise(16, "Throws IllegalStateException if they have no base, the marks of the roots are unlike,"
                + " or there are 40 trees or 30 versions", () -> {
            Shop x = forked();
            x.version(0, NONE, NONE);
            x.version(1, 3, NONE);
            Check.state(x, "no base", () -> x.mergeVersions(0, 3));
            Check.state(x, "no base further down", () -> x.mergeVersions(2, 4));
            x.version(Check.grow(x, "0.0"), 0, NONE);
            x.version(3, 5, NONE);
            x.version(0, 5, NONE);
            Check.state(x, "another left root", () -> x.mergeVersions(5, 1));
            Check.state(x, "another right root", () -> x.mergeVersions(1, 5));
            x.version(0, 5, NONE);
            Check.state(x, "another left root than that of the base and the right one", () -> x.mergeVersions(7, 6));
            Check.state(x, "another root of the base alone", () -> x.mergeVersions(7, 8));
            Check.is("no tree was made", x.trees(), 4);
            Shop y = forked();
            fullOf(y, 39, 3, () -> y.mergeVersions(1, 2), () -> y.mergeVersions(1, 2), () -> y.mergeVersions(0, 1));
            Shop z = forked();
            fullOf(z, 3, 29, () -> z.mergeVersions(1, 2), () -> z.mergeVersions(1, 2), () -> z.mergeVersions(0, 1));
        });
    }

    /** Fills it with so many trees and versions, that there is room for one more to come of this call, and then for none. */
    private static void fullOf(Shop x, int trees, int versions, Supplier<Integer> last, Supplier<?>... refused) {
        for (int tree = x.trees(); tree < trees; tree++) {
            x.seal();
        }
        for (int version = x.versions(); version < versions; version++) {
            x.version(0, 0, NONE);
        }
        Check.is("the last one", last.get(), versions);
        Check.is("its conflicts", Check.conflicts(x), "VALUE 0");
        for (int i = 0; i < refused.length; i++) {
            Check.state(x, "no room for call " + i, refused[i]);
        }
        Check.is("its conflicts still", Check.conflicts(x), "VALUE 0");
    }

    /** Versions 1 and 2 behind 0, of the trees 0 to 2, which have their numbers as the root's value. */
    private static Shop forked() {
        Shop x = chain(3, 0, 1);
        x.version(2, 0, NONE);
        return x;
    }

    private static void takeBack() {
        Sentences.promise(17, "Takes a version back.", () -> {
            Shop x = new Shop();
            x.version(Check.grow(x, "0.0(1.1 1.2)"), NONE, NONE);
            x.set(1, 10);
            x.version(x.seal(), 0, NONE);
            x.set(2, 20);
            x.version(x.seal(), 1, NONE);
            x.takeBack(1, 2);
            Check.tree("without it", x, x.treeOf(3), "0:0(1:1 2:20)");
            Check.tree("it stays", x, x.treeOf(1), "0:0(1:10 2:2)");
            Check.tree("the other one stays", x, x.treeOf(2), "0:0(1:10 2:20)");
        });
        Sentences.promise(17, "version: a version with a first parent", () -> {
            Shop x = chain(3, 0, 1, 2);
            Check.indexes(x, "version", 0, 2, i -> x.takeBack(i, 2));
            Check.is("it has one", x.takeBack(1, 2), 3);
            Check.state(x, "it has none", () -> x.takeBack(0, 2));
        });
        Sentences.promise(17, "head: a version that comes behind it", () -> {
            Shop x = chain(3, 0, 1, 2);
            Check.indexes(x, "head", 0, 2, i -> x.takeBack(1, i));
            Check.is("it does", x.takeBack(1, 2), 3);
            Check.state(x, "it is the same", () -> x.takeBack(1, 1));
            Check.state(x, "it comes ahead", () -> x.takeBack(1, 0));
        });
        Sentences.promise(17, "Returns the number of the version that comes of it.", () -> {
            Shop x = chain(1, 0, 0, 0);
            for (int version = 3; version < 30; version++) {
                Check.is("the number", x.takeBack(version - 2, version - 1), version);
                Check.is("how many", x.versions(), version + 1);
            }
        });
        Sentences.promise(17, "Throws IndexOutOfBoundsException if there are no such versions", () -> {
            Shop x = new Shop();
            Check.index(x, "none at all", () -> x.takeBack(0, 0));
            Shop y = chain(1, 0, 0, 0);
            Check.index(y, "no version", () -> y.takeBack(3, 2));
            Check.index(y, "no head", () -> y.takeBack(1, 3));
            Check.index(y, "no head, and no parent", () -> y.takeBack(0, 3));
            Check.index(y, "NONE", () -> y.takeBack(NONE, NONE));
            for (int version = 3; version < 30; version++) {
                y.version(0, NONE, NONE);
            }
            Check.index(y, "the index first", () -> y.takeBack(1, 30));
        });
        Sentences.promise(17, "Throws IllegalStateException if version has no parents, head does not come behind it,"
                + " the marks of the roots are unlike, or there are 40 trees or 30 versions", () -> {
            Shop x = forked();
            x.version(0, 1, NONE);
            Check.state(x, "no parents", () -> x.takeBack(0, 1));
            Check.state(x, "no parents, and head is the same", () -> x.takeBack(0, 0));
            Check.state(x, "beside it", () -> x.takeBack(1, 2));
            Check.state(x, "ahead of it", () -> x.takeBack(3, 1));
            Check.state(x, "the same", () -> x.takeBack(1, 1));
            int other = Check.grow(x, "0.0");
            x.version(other, 1, NONE);
            Check.state(x, "another root of the head", () -> x.takeBack(1, 4));
            x.version(0, 4, NONE);
            Check.state(x, "another root of the one taken back", () -> x.takeBack(4, 5));
            x.version(0, 5, NONE);
            Check.state(x, "another root of its parent", () -> x.takeBack(5, 6));
            Check.is("no tree was made", x.trees(), 4);
            // What is refused would have no conflicts, so it can be told apart from the last one.
            Shop y = chain(3, 0, 1, 2, 2);
            fullOf(y, 39, 4, () -> y.takeBack(1, 2), () -> y.takeBack(1, 2), () -> y.takeBack(2, 3));
            Shop z = chain(3, 0, 1, 2, 2);
            fullOf(z, 3, 29, () -> z.takeBack(1, 2), () -> z.takeBack(1, 2), () -> z.takeBack(2, 3));
        });
    }

    private static void versions() {
        Sentences.promise(34, "Returns how many versions there are.", () -> {
            Shop x = valued(1);
            Check.asked(x, "none", 0, x::versions);
            x.version(0, NONE, NONE);
            Check.asked(x, "one", 1, x::versions);
            x.version(0, 0, NONE);
            x.version(0, 0, NONE);
            x.mergeVersions(1, 2);
            Check.asked(x, "by mergeVersions", 4, x::versions);
            x.takeBack(1, 3);
            Check.asked(x, "by takeBack", 5, x::versions);
            Check.state(x, "one that is refused", () -> x.takeBack(0, 1));
            x.merge(0, 0, 0);
            Check.asked(x, "not by merge", 5, x::versions);
            for (int version = 5; version < 30; version++) {
                x.version(0, NONE, NONE);
            }
            Check.asked(x, "all", 30, x::versions);
        });
    }

    private static void treeOf() {
        Sentences.promise(35, "Returns the tree of a version.", () -> {
            Shop x = forked();
            x.version(0, 2, NONE);
            int[] due = {0, 1, 2, 0};
            for (int i = 0; i < due.length; i++) {
                int version = i;
                Check.asked(x, "version " + i, due[i], () -> x.treeOf(version));
            }
        });
        Sentences.promise(35, "version: its number", () -> {
            Shop x = forked();
            Check.indexes(x, "version", 0, 2, x::treeOf);
            Check.is("the first", x.treeOf(0), 0);
            Check.is("the last", x.treeOf(2), 2);
        });
        Sentences.promise(35, "Returns the number of the tree.", () -> {
            Shop x = valued(40);
            for (int version = 0; version < 30; version++) {
                x.version(39 - version, NONE, NONE);
            }
            for (int version = 0; version < 30; version++) {
                Check.is("of " + version, x.treeOf(version), 39 - version);
            }
        });
        Sentences.promise(35, "Throws IndexOutOfBoundsException if there is no such version", () -> {
            Shop x = valued(2);
            Check.indexes(x, "version", 0, -1, x::treeOf);
            x.version(0, NONE, NONE);
            Check.indexes(x, "version", 0, 0, x::treeOf);
            for (int version = 1; version < 30; version++) {
                x.version(0, NONE, NONE);
            }
            Check.indexes(x, "version", 0, 29, x::treeOf);
        });
    }

    private static void touched() {
        Sentences.promise(36, "Returns which version touched a mark last, as of a version.", () -> {
            Shop x = chain(2, 0, 1, 1);
            Check.asked(x, "as of 2", 1, () -> x.touched(2, 0));
            Check.asked(x, "as of 0", 0, () -> x.touched(0, 0));
        });
        Sentences.promise(36, "version: its number", () -> {
            Shop x = forked();
            Check.indexes(x, "version", 0, 2, i -> x.touched(i, 0));
            Check.is("the last", x.touched(2, 0), 2);
        });
        Sentences.promise(36, "mark: a mark", () -> {
            Shop x = forked();
            x.node(0, 0, 1, 1, NONE);
            Check.indexes(x, "mark", 0, 1, i -> x.touched(0, i));
            Check.is("one that is just drafted", x.touched(2, 1), NONE);
            for (int mark = 2; mark < 299; mark++) {
                x.begin(0, 0, NONE);
            }
            x.node(298, 0, 1, 1, NONE);
            int version = x.version(x.seal(), NONE, NONE);
            Check.is("the last of all", x.touched(version, 299), version);
            Check.is("the last of all, elsewhere", x.touched(0, 299), NONE);
            Check.indexes(x, "mark", 0, 299, i -> x.touched(0, i));
        });
        Sentences.promise(36, "Returns the version; NONE if the tree of this one does not have the mark.", () -> {
            Shop x = new Shop();
            int one = Check.grow(x, "0.0(1.1)");
            x.drop(1);
            int two = x.seal();
            x.version(one, NONE, NONE);
            x.version(two, 0, NONE);
            x.version(one, 1, NONE);
            Check.is("version 0 is one", x.touched(0, 1), 0);
            Check.is("dropped", x.touched(1, 1), NONE);
            Check.is("there again", x.touched(2, 1), 2);
            Check.is("the root", x.touched(2, 0), 0);
        });
        Sentences.promise(36, "Throws IndexOutOfBoundsException if there is no such version or mark", () -> {
            Shop x = new Shop();
            Check.index(x, "none at all", () -> x.touched(0, 0));
            x.begin(0, 0, NONE);
            x.seal();
            Check.index(x, "no version", () -> x.touched(0, 0));
            x.version(0, NONE, NONE);
            Check.index(x, "version 1", () -> x.touched(1, 0));
            Check.index(x, "mark 1", () -> x.touched(0, 1));
            Check.index(x, "neither", () -> x.touched(-1, -1));
        });
    }

    private static void look() {
        Sentences.promise(37, "Looks for a value of a kind.", () -> {
            Shop x = new Shop();
            x.version(Check.grow(x, "0.0(1.1 2.5(3.7))"), NONE, NONE);
            x.set(3, 8);
            x.version(x.seal(), 0, NONE);
            Check.asked(x, "far below", 0, () -> x.look(0, 1, 3, 7));
            Check.asked(x, "later", 1, () -> x.look(0, 1, 3, 8));
            Check.asked(x, "a value of another kind", NONE, () -> x.look(0, 1, 2, 8));
            Check.asked(x, "a kind with another value", NONE, () -> x.look(0, 1, 1, 5));
            Check.asked(x, "that of the root", 0, () -> x.look(0, 1, 0, 0));
        });
        Sentences.promise(37, "from: the earlier version", () -> {
            Shop x = chain(3, 0, 1, 2);
            Check.indexes(x, "from", 0, 2, i -> x.look(i, 2, 0, 0));
            Check.is("the last", x.look(2, 2, 0, 2), 2);
            Check.is("the middle", x.look(1, 2, 0, 1), 1);
        });
        Sentences.promise(37, "to: the later version", () -> {
            Shop x = chain(3, 0, 1, 2);
            Check.indexes(x, "to", 0, 2, i -> x.look(0, i, 0, 0));
            Check.is("the last", x.look(0, 2, 0, 2), 2);
            Check.is("the first", x.look(0, 0, 0, 0), 0);
        });
        Sentences.promise(37, "kind: 0 to 5", () -> {
            Shop x = new Shop();
            x.version(Check.grow(x, "0.7(1.7 2.7 3.7 4.7 5.7)"), NONE, NONE);
            x.version(Check.grow(x, "0.0"), NONE, NONE);
            for (int kind = 0; kind <= 5; kind++) {
                Check.is("kind " + kind, x.look(0, 0, kind, 7), 0);
                Check.is("kind " + kind, x.look(1, 1, kind, 7), NONE);
            }
            Check.arguments(x, "kind", 0, 5, i -> x.look(0, 0, i, 7));
        });
        Sentences.promise(37, "value: 0 to 99", () -> {
            Shop x = new Shop();
            x.version(Check.grow(x, "0.0(0.99)"), NONE, NONE);
            Check.is("value 0", x.look(0, 0, 0, 0), 0);
            Check.is("value 99", x.look(0, 0, 0, 99), 0);
            Check.is("value 98", x.look(0, 0, 0, 98), NONE);
            Check.arguments(x, "value", 0, 99, i -> x.look(0, 0, 0, i));
        });
        Sentences.promise(37, "Returns the version that is left; NONE if there is no such node in it.", () -> {
            Shop x = chain(2, 0, 1, 0);
            Check.is("0 to 2", x.look(0, 2, 0, 1), 1);
            Check.is("0 alone", x.look(0, 0, 0, 1), NONE);
            Check.is("version 0 is one", x.look(0, 0, 0, 0), 0);
            // 0 to 1: 0 has it not; 1 is left.
            Check.is("0 to 1", x.look(0, 1, 0, 1), 1);
            // 1 to 2: 1 has it.
            Check.is("1 to 2", x.look(1, 2, 0, 1), 1);
            // 1 is looked at, and has it not; 2 is left, and has it.
            Check.is("0 to 2 for 0", x.look(0, 2, 0, 0), 2);
        });
        Sentences.promise(37, "Throws IndexOutOfBoundsException if there are no such versions", () -> {
            Shop x = new Shop();
            Check.index(x, "none at all", () -> x.look(0, 0, 0, 0));
            Shop y = forked();
            Check.index(y, "no from", () -> y.look(3, 0, 0, 0));
            Check.index(y, "no to", () -> y.look(0, 3, 0, 0));
            Check.index(y, "no from, and a wrong kind", () -> y.look(3, 0, 6, 0));
            Check.index(y, "no to, and a wrong value", () -> y.look(0, 3, 0, 100));
            Check.index(y, "NONE", () -> y.look(NONE, NONE, NONE, NONE));
        });
        Sentences.promise(37, "Throws IllegalArgumentException if kind or value is out of range", () -> {
            Shop x = forked();
            Check.argument(x, "kind -1", () -> x.look(0, 0, -1, 0));
            Check.argument(x, "kind 6", () -> x.look(0, 0, 6, 99));
            Check.argument(x, "value -1", () -> x.look(0, 0, 0, -1));
            Check.argument(x, "value 100", () -> x.look(0, 0, 5, 100));
            Check.argument(x, "the argument first", () -> x.look(1, 2, 6, 0));
            Check.argument(x, "the argument first", () -> x.look(1, 0, 0, 100));
        });
        Sentences.promise(37, "Throws IllegalStateException if to is not from, and does not reach it by first parents", () -> {
            Shop x = forked();
            x.version(0, 1, 2);
            Check.state(x, "beside it", () -> x.look(1, 2, 0, 0));
            Check.state(x, "the other way round", () -> x.look(1, 0, 0, 0));
            Check.state(x, "by a second parent", () -> x.look(2, 3, 0, 0));
            Check.is("by first parents", x.look(0, 3, 0, 1), 1);
            for (int version = 0; version < 4; version++) {
                Check.is("itself", x.look(version, version, 0, x.value(x.treeOf(version), 0)), version);
            }
            x.version(0, NONE, NONE);
            Check.state(x, "another beginning", () -> x.look(0, 4, 0, 0));
        });
    }
}
