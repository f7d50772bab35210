/** What the document says of trees and drafts: a test for each sentence. */
final class DraftSentences {
    private static final int NONE = TwigPatch.NONE;

    private DraftSentences() {
    }

    static void check() {
        numbers();
        nodes();
        marks();
        kinds();
        orders();
        newObject();
        begins();
        copies();
        adds();
        addsRefused();
        sets();
        moves();
        movesRefused();
        drops();
        seals();
    }

    private static void trees(String words, Runnable test) {
        Sentences.holds("Trees", words, test);
    }

    // ---- the terms

    private static void numbers() {
        trees("Trees are numbered from 0 as they are made", () -> {
            Shop x = new Shop();
            Check.is("the first one", Check.grow(x, "0.0(1.1)"), 0);
            x.version(0, NONE, NONE);
            x.version(0, 0, NONE);
            x.version(0, 0, NONE);
            x.version(0, 1, NONE);
            Check.is("a script is no tree", x.find(0, 0), 0);
            Check.is("by seal", x.seal(), 1);
            Check.is("by apply", x.apply(0, 0), 2);
            Check.is("by merge", x.merge(0, 0, 0), 3);
            x.mergeVersions(1, 2);
            Check.is("by mergeVersions", x.treeOf(4), 4);
            x.takeBack(1, 3);
            Check.is("by takeBack", x.treeOf(5), 5);
            Check.is("by seal once more", x.seal(), 6);
            Check.is("how many", x.trees(), 7);
        });
        trees("at most 40", () -> {
            for (int way = 0; way < 5; way++) {
                Shop x = new Shop();
                fill(x, 39);
                int last = way;
                Check.is("the 40th, made by way " + way, make(x, last), 39);
                Check.is("how many", x.trees(), 40);
                Check.is("its size", x.size(39), 2);
                for (int more = 0; more < 5; more++) {
                    int one = more;
                    Check.state(x, "one more, by way " + more, () -> make(x, one));
                }
                Check.index(x, "tree 40", () -> x.size(40));
            }
        });
    }

    /** Makes trees until there are so many, and what each way to make one more needs. */
    private static void fill(Shop x, int trees) {
        Check.grow(x, "0.0(1.1)");
        x.version(0, NONE, NONE);
        x.version(0, 0, NONE);
        x.version(0, 0, NONE);
        x.version(0, 1, NONE);
        x.find(0, 0);
        for (int tree = 1; tree < trees; tree++) {
            x.seal();
        }
    }

    private static int make(Shop x, int way) {
        switch (way) {
            case 0:
                return x.seal();
            case 1:
                return x.apply(0, 0);
            case 2:
                return x.merge(0, 0, 0);
            case 3:
                return x.treeOf(x.mergeVersions(1, 2));
            default:
                return x.treeOf(x.takeBack(1, 3));
        }
    }

    private static void nodes() {
        trees("a tree that is drafted has 1 node or more", () -> {
            Shop x = new Shop();
            Check.state(x, "no draft, no tree", x::seal);
            x.begin(2, 5, NONE);
            Check.is("a tree of 1", x.size(x.seal()), 1);
            x.node(0, 0, 1, 1, NONE);
            Check.is("a tree of 2", x.size(x.seal()), 2);
            x.drop(1);
            Check.state(x, "the root stays", () -> x.drop(0));
            Check.is("a tree of 1 again", x.size(x.seal()), 1);
        });
        trees("a node is told to a draft of fewer than 24 alone", () -> {
            Shop x = new Shop();
            x.begin(0, 0, NONE);
            for (int nodes = 1; nodes < 23; nodes++) {
                x.node(0, 0, 1, 1, NONE);
            }
            Check.is("to one of 23", x.node(22, 0, 1, 1, NONE), 23);
            Check.state(x, "to one of 24", () -> x.node(0, 0, 1, 1, NONE));
            Check.is("there are 24", x.size(x.seal()), 24);
            Check.is("two are dropped", x.drop(22), 2);
            Check.is("to one of 22", x.node(0, 0, 1, 1, NONE), 24);
            Check.is("to one of 23", x.node(0, 22, 1, 1, NONE), 25);
            Check.state(x, "to one of 24 once more", () -> x.node(0, 0, 1, 1, NONE));
            x.begin(0, 0, NONE);
            Check.is("to a new one", x.node(26, 0, 1, 1, NONE), 27);
        });
        trees("but one that is copied may have more", () -> {
            Shop x = new Shop();
            int tree = wide(x, 25);
            Check.is("the copy", x.copy(tree), 25);
            Check.state(x, "no node more", () -> x.node(0, 0, 1, 1, NONE));
            Check.is("another value", x.set(24, 9), 1);
            Check.is("another place", x.move(24, 1, 0), 0);
            Check.is("a tree of 25", x.size(x.seal()), 25);
            x.drop(2);
            Check.state(x, "no node more to 24", () -> x.node(0, 0, 1, 1, NONE));
            x.drop(3);
            Check.is("one more to 23", x.node(0, 0, 1, 1, NONE), 25);
            Check.state(x, "no node more to 24 again", () -> x.node(0, 0, 1, 1, NONE));
        });
    }

    /** A root with children, merged of trees that are not too large to be drafted; its marks are 0, 1 and so on. */
    static int wide(Shop x, int size) {
        int root = Check.grow(x, "0.0");
        int tree = root;
        for (int made = 1; made < size;) {
            x.copy(root);
            for (int i = 0; i < 23 && made < size; i++) {
                x.node(0, i, 1, 1, NONE);
                made++;
            }
            tree = x.merge(root, tree, x.seal());
        }
        return tree;
    }

    private static void marks() {
        trees("Each node has a mark, a number from 0 that is given to it when it is made", () -> {
            Shop x = new Shop();
            Check.is("the first", x.begin(0, 0, NONE), 0);
            Check.is("the second", x.node(0, 0, 0, 0, NONE), 1);
            Check.is("the third, at the first place", x.node(0, 0, 0, 0, NONE), 2);
            x.drop(2);
            Check.is("one that is dropped is not given again", x.node(0, 0, 0, 0, NONE), 3);
            Check.is("nor with a new draft", x.begin(0, 0, NONE), 4);
            x.seal();
            x.copy(0);
            Check.is("nor with a copy", x.node(4, 0, 0, 0, NONE), 5);
        });
        trees("at most 300 in all", () -> {
            Shop x = new Shop();
            for (int mark = 0; mark < 298; mark++) {
                Check.is("a mark", x.begin(0, 0, NONE), mark);
            }
            Check.is("the 299th", x.node(297, 0, 1, 1, NONE), 298);
            Check.is("the 300th, by begin", x.begin(0, 0, NONE), 299);
            Check.state(x, "one more by begin", () -> x.begin(0, 0, NONE));
            Check.state(x, "one more by node", () -> x.node(299, 0, 0, 0, NONE));
            Check.is("the tree of the last", x.markAt(x.seal(), 0), 299);
        });
        trees("stays its own in all trees to which it is carried over", () -> {
            Shop x = new Shop();
            int one = Check.grow(x, "0.0(1.1 1.2(1.3))");
            Check.tree("sealed once more", x, x.seal(), "0:0(1:1 2:2(3:3))");
            x.node(0, 0, 1, 4, NONE);
            x.move(3, 1, 0);
            int two = x.seal();
            Check.tree("copied", x, x.copy(two) == 5 ? x.seal() : NONE, "0:0(4:4 1:1(3:3) 2:2)");
            int script = x.find(one, two);
            Check.tree("applied", x, x.apply(script, one), "0:0(4:4 1:1(3:3) 2:2)");
            Check.tree("turned and applied", x, x.apply(x.turn(script), two), "0:0(1:1 2:2(3:3))");
            Check.tree("merged", x, x.merge(one, two, one), "0:0(4:4 1:1(3:3) 2:2)");
        });
        trees("no tree has two nodes with one mark", () -> {
            Shop x = new Shop();
            int one = Check.grow(x, "0.0(1.1)");
            x.node(0, 0, 1, 2, NONE);
            int two = x.seal();
            int script = x.find(one, two);
            Check.tree("put where it is already", x, x.apply(script, two), "0:0(2:2 1:1)");
            Check.is("its size", x.size(x.merge(one, two, two)), 3);
        });
    }

    private static void kinds() {
        trees("A node has a kind, 0 to 5, a value, 0 to 99, and an identity, 0 to 99, or none", () -> {
            Shop x = new Shop();
            int least = Check.grow(x, "0.0#0(0.0#0 0.0)");
            int most = Check.grow(x, "5.99#99(5.99#99 5.99)");
            x.version(least, NONE, NONE);
            x.version(most, NONE, NONE);
            Check.is("kind and value 0", x.look(0, 0, 0, 0), 0);
            Check.is("kind and value at the upper ends", x.look(1, 1, 5, 99), 1);
            Check.is("no kind but this", x.look(1, 1, 4, 99), NONE);
            Check.is("no value but this", x.look(1, 1, 5, 98), NONE);
            Check.is("identity 0 is one", x.areAlike(least, Check.grow(x, "0.0(0.0#0 0.0)")), false);
            Check.is("identity 99", x.areAlike(most, Check.grow(x, "5.99#99(5.99 5.99#99)")), true);
            Check.is("identity 98", x.areAlike(most, Check.grow(x, "5.99#98(5.99#99 5.99)")), false);
        });
        trees("it has children, in an order", () -> {
            Shop x = new Shop();
            Check.tree("none", x, Check.grow(x, "0.7"), "0:7");
            int one = Check.grow(x, "0.0(1.1 1.2 1.3)");
            Check.tree("three", x, one, "1:0(2:1 3:2 4:3)");
            x.move(4, 1, 0);
            int two = x.seal();
            Check.tree("in another order", x, two, "1:0(4:3 2:1 3:2)");
            Check.is("that is another tree", x.areSame(one, two), false);
        });
        trees("Kind and identity of a mark never change", () -> {
            Shop x = new Shop();
            int one = Check.grow(x, "0.0(3.3)");
            int mark = x.node(0, 0, 5, 7, 9);
            x.set(mark, 8);
            x.move(mark, 1, 0);
            int two = x.seal();
            int put = x.apply(x.find(one, two), one);
            int merged = x.merge(one, one, two);
            for (int tree : new int[] {two, put, merged}) {
                int version = x.version(tree, NONE, NONE);
                Check.is("the kind", x.look(version, version, 5, 8), version);
                Check.is("the root's", x.look(version, version, 0, 0), version);
                Check.is("all", x.areAlike(tree, Check.grow(x, "0.0(3.3(5.8#9))")), true);
                Check.is("the identity", x.areAlike(tree, Check.grow(x, "0.0(3.3(5.8#8))")), false);
            }
        });
    }

    private static void orders() {
        trees("The order of the children of a node of the kinds 4 and 5 does not matter", () -> {
            for (int kind = 0; kind <= 5; kind++) {
                Shop x = new Shop();
                int one = Check.grow(x, kind + ".0(1.1 1.2)");
                int two = Check.grow(x, kind + ".0(1.2 1.1)");
                Check.is("kind " + kind, x.areAlike(one, two), kind >= 4);
                Check.is("steps for kind " + kind, x.steps(x.find(one, two)), kind >= 4 ? 0 : 1);
            }
        });
        trees("they are by rising marks always", () -> {
            for (int kind = 3; kind <= 5; kind++) {
                Shop x = new Shop();
                int one = Check.grow(x, kind + ".0(1.1 1.2 1.3)");
                x.node(0, 0, 1, 4, NONE);
                x.move(1, 0, 2);
                x.move(2, 4, 0);
                x.move(2, 0, 0);
                int two = x.seal();
                boolean isLoose = kind > 3;
                Check.tree("drafted under kind " + kind, x, two,
                        isLoose ? "0:0(1:1 2:2 3:3 4:4)" : "0:0(2:2 4:4 1:1 3:3)");
                x.copy(one);
                x.drop(2);
                int three = x.seal();
                int back = x.apply(x.find(three, one), three);
                Check.tree("put", x, back, "0:0(1:1 2:2 3:3)");
                x.node(0, 2, 1, 5, NONE);
                x.move(3, 1, 0);
                Check.tree("merged", x, x.merge(one, two, x.seal()),
                        isLoose ? "0:0(1:1(3:3) 4:4 5:5)" : "0:0(4:4 1:1(3:3) 5:5)");
            }
        });
        trees("The nodes of a tree in order are the root, then what is below its first child, that child first, and so on",
                () -> {
                    Shop x = new Shop();
                    x.begin(0, 0, NONE);
                    x.node(0, 0, 1, 1, NONE);
                    x.node(0, 0, 1, 2, NONE);
                    x.node(2, 0, 1, 3, NONE);
                    x.node(1, 0, 1, 4, NONE);
                    x.node(3, 0, 1, 5, NONE);
                    x.node(2, 1, 1, 6, NONE);
                    int tree = x.seal();
                    int[] due = {0, 2, 3, 5, 6, 1, 4};
                    for (int place = 0; place < due.length; place++) {
                        Check.is("place " + place, x.markAt(tree, place), due[place]);
                    }
                });
    }

    // ---- promises

    private static void newObject() {
        Sentences.promise(1, "Makes a workshop without trees.", () -> {
            Shop x = new Shop();
            Check.is("trees", x.trees(), 0);
            Check.is("versions", x.versions(), 0);
            Check.is("conflicts", x.conflicts(), 0);
            Check.is("fuzz", x.fuzz(), 0);
            Check.indexes(x, "size of", 0, -1, x::size);
            Check.indexes(x, "steps of", 0, -1, x::steps);
            Check.indexes(x, "treeOf", 0, -1, x::treeOf);
            Check.indexes(x, "conflictKind", 0, -1, x::conflictKind);
            Check.indexes(x, "conflictMark", 0, -1, x::conflictMark);
            Check.index(x, "value", () -> x.value(0, 0));
            Check.index(x, "parent", () -> x.parent(0, 0));
            Check.index(x, "touched", () -> x.touched(0, 0));
            Check.index(x, "find", () -> x.find(0, 0));
            Check.index(x, "turn", () -> x.turn(0));
            Check.index(x, "apply", () -> x.apply(0, 0));
            Check.index(x, "merge", () -> x.merge(0, 0, 0));
            Check.index(x, "version", () -> x.version(0, NONE, NONE));
            Check.index(x, "mergeVersions", () -> x.mergeVersions(0, 0));
            Check.index(x, "takeBack", () -> x.takeBack(0, 0));
            Check.index(x, "look", () -> x.look(0, 0, 0, 0));
            Check.state(x, "no draft", x::seal);
            Shop other = new Shop();
            x.begin(0, 0, NONE);
            Check.is("objects have nothing in common", other.begin(1, 1, NONE), 0);
        });
    }

    private static void begins() {
        Sentences.promise(2, "Begins a draft of a tree, in place of the one there was, with a root of a new mark.", () -> {
            Shop x = new Shop();
            Check.draft(x, "0.0(1.1 1.2)");
            Check.is("a new mark", x.begin(3, 4, 5), 3);
            Check.index(x, "the root before", () -> x.set(0, 1));
            Check.index(x, "a node before", () -> x.set(2, 1));
            Check.index(x, "as a parent", () -> x.node(0, 0, 0, 0, NONE));
            Check.tree("the root alone", x, x.seal(), "3:4");
        });
        Sentences.promise(2, "kind: 0 to 5", () -> {
            Shop x = new Shop();
            for (int kind = 0; kind <= 5; kind++) {
                Check.is("kind " + kind, x.begin(kind, 1, NONE), kind);
                x.version(x.seal(), NONE, NONE);
                Check.is("it is this one", x.look(kind, kind, kind, 1), kind);
            }
            Check.arguments(x, "kind", 0, 5, i -> x.begin(i, 0, 0));
        });
        Sentences.promise(2, "value: 0 to 99", () -> {
            Shop x = new Shop();
            for (int value : new int[] {0, 1, 98, 99}) {
                int mark = x.begin(0, value, NONE);
                Check.is("value " + value, x.value(x.seal(), mark), value);
            }
            Check.arguments(x, "value", 0, 99, i -> x.begin(0, i, 0));
        });
        Sentences.promise(2, "identity: 0 to 99; NONE for none", () -> {
            Shop x = new Shop();
            int[] identities = {NONE, 0, 1, 98, 99};
            for (int identity : identities) {
                x.begin(0, 0, identity);
                x.seal();
            }
            for (int i = 0; i < identities.length; i++) {
                for (int j = 0; j < identities.length; j++) {
                    Check.is("the same identity", x.areAlike(i, j), i == j);
                }
            }
            Check.arguments(x, "identity", -1, 99, i -> x.begin(0, 0, i));
        });
        Sentences.promise(2, "Returns the mark of the root.", () -> {
            Shop x = new Shop();
            for (int mark = 0; mark < 3; mark++) {
                Check.is("the mark", x.begin(0, 0, NONE), mark);
                Check.is("is the root's", x.markAt(x.seal(), 0), mark);
            }
        });
        Sentences.promise(2, "Throws IllegalArgumentException if kind, value or identity is out of range", () -> {
            Shop x = new Shop();
            Check.draft(x, "0.0(1.1)");
            Check.argument(x, "kind 6", () -> x.begin(6, 99, 99));
            Check.argument(x, "value 100", () -> x.begin(5, 100, 99));
            Check.argument(x, "identity 100", () -> x.begin(5, 99, 100));
            Check.argument(x, "identity -2", () -> x.begin(0, 0, -2));
            Check.argument(x, "all", () -> x.begin(-1, -1, -2));
            Check.is("the draft before is there", x.set(1, 2), 1);
        });
        Sentences.promise(2, "Throws IllegalStateException if there are 300 marks", () -> {
            Shop x = new Shop();
            for (int mark = 0; mark < 299; mark++) {
                x.begin(0, mark % 100, NONE);
            }
            Check.is("the last one", x.begin(5, 99, 99), 299);
            Check.state(x, "one more", () -> x.begin(0, 0, 0));
            Check.argument(x, "the argument first", () -> x.begin(0, 0, 100));
            Check.tree("the draft stays", x, x.seal(), "299:99");
        });
    }

    private static void copies() {
        Sentences.promise(3, "Makes the draft a copy of a tree, with its marks.", () -> {
            Shop x = new Shop();
            int tree = Check.grow(x, "0.1(4.2(1.3 1.4) 1.5#6)");
            Check.draft(x, "1.0(1.1)");
            x.copy(tree);
            Check.index(x, "the draft before", () -> x.set(5, 1));
            int copy = x.seal();
            Check.is("the same", x.areSame(tree, copy), true);
            x.set(1, 9);
            x.drop(4);
            Check.tree("the tree stays as it is", x, tree, "0:1(1:2(2:3 3:4) 4:5)");
            x.copy(copy);
            Check.is("copied once more", x.areSame(x.seal(), tree), true);
        });
        Sentences.promise(3, "tree: its number", () -> {
            Shop x = new Shop();
            for (int tree = 0; tree < 40; tree++) {
                x.begin(0, tree, NONE);
                x.seal();
            }
            for (int tree : new int[] {0, 1, 38, 39}) {
                x.copy(tree);
                Check.is("its root", x.set(tree, 0), tree);
            }
        });
        Sentences.promise(3, "Returns how many nodes it has.", () -> {
            Shop x = new Shop();
            Check.grow(x, "0.0");
            Check.grow(x, "0.0(1.1(1.2))");
            Check.is("1", x.copy(0), 1);
            Check.is("3", x.copy(1), 3);
            Shop y = new Shop();
            Check.is("60", y.copy(wide(y, 60)), 60);
        });
        Sentences.promise(3, "Throws IndexOutOfBoundsException if there is no such tree", () -> {
            Shop x = new Shop();
            Check.indexes(x, "copy of", 0, -1, x::copy);
            Check.draft(x, "0.0(1.1)");
            Check.indexes(x, "copy of", 0, -1, x::copy);
            x.seal();
            Check.indexes(x, "copy of", 0, 0, x::copy);
            for (int tree = 1; tree < 40; tree++) {
                x.seal();
            }
            Check.indexes(x, "copy of", 0, 39, x::copy);
        });
    }

    private static void adds() {
        Sentences.promise(4, "Adds a node of a new mark to the draft.", () -> {
            Shop x = new Shop();
            int tree = Check.grow(x, "0.0");
            Check.is("its mark", x.node(0, 0, 1, 5, NONE), 1);
            Check.tree("it is there", x, x.seal(), "0:0(1:5)");
            Check.tree("not in the tree", x, tree, "0:0");
        });
        Sentences.promise(4, "parent: a mark of the draft", () -> {
            Shop x = new Shop();
            Check.draft(x, "0.0(1.1)");
            Check.is("the root", x.node(0, 1, 1, 2, NONE), 2);
            Check.is("a child", x.node(1, 0, 1, 3, NONE), 3);
            Check.is("the new one", x.node(3, 0, 1, 4, NONE), 4);
            Check.tree("below these", x, x.seal(), "0:0(1:1(3:3(4:4)) 2:2)");
            Check.indexes(x, "parent", 0, 4, i -> x.node(i, 0, 1, 0, NONE));
        });
        Sentences.promise(4, "place: 0 to how many children that has; it does not matter for the kinds 4 and 5", () -> {
            for (int kind = 0; kind <= 5; kind++) {
                Shop x = new Shop();
                x.begin(kind, 0, NONE);
                x.node(0, 0, 1, 1, NONE);
                x.node(0, 1, 1, 2, NONE);
                x.node(0, 0, 1, 3, NONE);
                x.node(0, 2, 1, 4, NONE);
                Check.tree("under kind " + kind, x, x.seal(),
                        kind < 4 ? "0:0(3:3 1:1 4:4 2:2)" : "0:0(1:1 2:2 3:3 4:4)");
                if (kind < 4) {
                    Check.is("the last place", x.outcome(() -> x.node(0, 4, 1, 5, NONE)), 5);
                    Check.indexes(x, "place", 0, 4, i -> x.node(0, i, 1, 5, NONE));
                    Check.indexes(x, "place in a leaf", 0, 0, i -> x.node(1, i, 1, 5, NONE));
                } else {
                    for (int place : Check.outside(0, 4)) {
                        Check.is("place " + place, x.outcome(() -> x.node(0, place, 1, 5, NONE)), 5);
                    }
                    x.node(0, Integer.MIN_VALUE, 1, 5, NONE);
                    x.node(0, Integer.MAX_VALUE, 1, 6, NONE);
                    Check.tree("wherever", x, x.seal(), "0:0(1:1 2:2 3:3 4:4 5:5 6:6)");
                }
            }
        });
        Sentences.promise(4, "kind: 0 to 5", () -> {
            Shop x = new Shop();
            x.begin(0, 0, NONE);
            for (int kind = 0; kind <= 5; kind++) {
                Check.is("kind " + kind, x.node(0, 0, kind, 7, NONE), kind + 1);
                x.version(x.seal(), NONE, NONE);
                Check.is("it is this one", x.look(kind, kind, kind, 7), kind);
                x.set(kind + 1, 0);
            }
            Check.arguments(x, "kind", 0, 5, i -> x.node(0, 0, i, 0, 0));
        });
        Sentences.promise(4, "value: 0 to 99", () -> {
            Shop x = new Shop();
            x.begin(0, 0, NONE);
            for (int value : new int[] {0, 1, 98, 99}) {
                int mark = x.node(0, 0, 1, value, NONE);
                Check.is("value " + value, x.value(x.seal(), mark), value);
            }
            Check.arguments(x, "value", 0, 99, i -> x.node(0, 0, 0, i, 0));
        });
        Sentences.promise(4, "identity: 0 to 99; NONE for none", () -> {
            Shop x = new Shop();
            int[] identities = {NONE, 0, 1, 98, 99};
            for (int identity : identities) {
                x.node(x.begin(0, 0, NONE), 0, 1, 1, identity);
                x.seal();
            }
            for (int i = 0; i < identities.length; i++) {
                for (int j = 0; j < identities.length; j++) {
                    Check.is("the same identity", x.areAlike(i, j), i == j);
                }
            }
            Check.arguments(x, "identity", -1, 99, i -> x.node(8, 0, 0, 0, i));
        });
        Sentences.promise(4, "Returns its mark.", () -> {
            Shop x = new Shop();
            Check.draft(x, "0.0(1.1)");
            int mark = x.node(0, 0, 1, 9, NONE);
            Check.is("the mark", mark, 2);
            Check.is("has its value", x.value(x.seal(), mark), 9);
        });
    }

    private static void addsRefused() {
        Sentences.promise(4, "Throws IndexOutOfBoundsException if the draft has no such mark, or there is no such place", () -> {
            Shop x = new Shop();
            Check.index(x, "without a draft", () -> x.node(0, 0, 0, 0, NONE));
            Check.grow(x, "0.0(4.1)");
            Check.draft(x, "0.0(1.1 1.2 4.3)");
            x.drop(4);
            Check.index(x, "a mark of another tree", () -> x.node(1, 0, 0, 0, NONE));
            Check.index(x, "a mark that was dropped", () -> x.node(4, 0, 0, 0, NONE));
            Check.index(x, "a mark that is not made yet", () -> x.node(6, 0, 0, 0, NONE));
            Check.indexes(x, "place", 0, 2, i -> x.node(2, i, 0, 0, NONE));
            Check.index(x, "no mark, any place", () -> x.node(6, 7, 0, 0, NONE));
            Check.index(x, "no such place, and nothing else right", () -> x.node(2, 3, 6, 100, 100));
            Check.index(x, "no such mark, and nothing else right", () -> x.node(6, 0, 6, 100, 100));
            Check.is("a child of kind 4 takes any place", x.node(5, 7, 0, 0, NONE), 6);
        });
        Sentences.promise(4, "Throws IllegalArgumentException if kind, value or identity is out of range", () -> {
            Shop x = new Shop();
            Check.draft(x, "0.0(1.1)");
            Check.argument(x, "kind 6", () -> x.node(0, 0, 6, 99, 99));
            Check.argument(x, "value 100", () -> x.node(0, 0, 5, 100, 99));
            Check.argument(x, "identity 100", () -> x.node(0, 0, 5, 99, 100));
            Check.argument(x, "identity -2", () -> x.node(0, 0, 0, 0, -2));
            Check.argument(x, "all", () -> x.node(0, 0, -1, -1, -2));
            Check.is("no mark is gone", x.node(0, 0, 5, 99, 99), 2);
        });
        Sentences.promise(4, "Throws IllegalStateException if the draft has 24 nodes or more, or there are 300 marks", () -> {
            Shop x = new Shop();
            int tree = wide(x, 26);
            for (int nodes = 26; nodes >= 24; nodes--) {
                x.copy(tree);
                for (int mark = 25; mark >= nodes; mark--) {
                    x.drop(mark);
                }
                Check.state(x, "a draft of " + nodes, () -> x.node(0, 0, 0, 0, NONE));
                Check.argument(x, "the argument first", () -> x.node(0, 0, 0, 0, 100));
                Check.index(x, "the index first", () -> x.node(0, 26, 0, 0, NONE));
            }
            x.drop(1);
            Check.is("a draft of 23", x.node(0, 0, 0, 0, NONE), 26);
            for (int mark = 27; mark < 298; mark++) {
                x.begin(0, 0, NONE);
            }
            Check.is("299 marks", x.begin(0, 0, NONE), 298);
            Check.is("the 300th", x.node(298, 0, 0, 0, NONE), 299);
            Check.state(x, "300 marks", () -> x.node(298, 0, 0, 0, NONE));
            Check.argument(x, "the argument first", () -> x.node(298, 0, 0, 100, NONE));
            Check.index(x, "the index first", () -> x.node(298, 2, 0, 0, NONE));
            Check.index(x, "the index first", () -> x.node(300, 0, 0, 0, NONE));
        });
    }

    private static void sets() {
        Sentences.promise(5, "Gives a node of the draft another value.", () -> {
            Shop x = new Shop();
            int tree = Check.grow(x, "0.0(1.1 1.2)");
            x.set(2, 7);
            x.set(0, 8);
            Check.tree("the draft", x, x.seal(), "0:8(1:1 2:7)");
            Check.tree("the tree stays", x, tree, "0:0(1:1 2:2)");
        });
        Sentences.promise(5, "mark: a mark of the draft", () -> {
            Shop x = new Shop();
            Check.draft(x, "0.5(1.6(1.7))");
            for (int mark = 0; mark <= 2; mark++) {
                Check.is("mark " + mark, x.set(mark, 1), 5 + mark);
            }
            Check.indexes(x, "mark", 0, 2, i -> x.set(i, 1));
        });
        Sentences.promise(5, "value: 0 to 99", () -> {
            Shop x = new Shop();
            x.begin(0, 50, NONE);
            int before = 50;
            for (int value : new int[] {0, 99, 1, 98}) {
                Check.is("value " + value, x.set(0, value), before);
                before = value;
            }
            Check.arguments(x, "value", 0, 99, i -> x.set(0, i));
        });
        Sentences.promise(5, "Returns the value before.", () -> {
            Shop x = new Shop();
            x.begin(0, 99, NONE);
            Check.is("as it was made", x.set(0, 0), 99);
            Check.is("as it was set", x.set(0, 0), 0);
            Check.is("as it was set, though to the same", x.set(0, 3), 0);
        });
        Sentences.promise(5, "Throws IndexOutOfBoundsException if the draft has no such mark", () -> {
            Shop x = new Shop();
            Check.index(x, "without a draft", () -> x.set(0, 0));
            int tree = Check.grow(x, "0.0(1.1)");
            Check.draft(x, "0.0(1.1 1.2(1.3))");
            x.drop(4);
            Check.index(x, "a mark of another tree", () -> x.set(1, 0));
            Check.index(x, "a mark that was dropped", () -> x.set(4, 0));
            Check.index(x, "a mark that was below it", () -> x.set(5, 0));
            Check.index(x, "a mark that is not made yet", () -> x.set(6, 0));
            Check.index(x, "the index first", () -> x.set(6, 100));
            x.copy(tree);
            Check.index(x, "a mark of the draft before", () -> x.set(3, 0));
        });
        Sentences.promise(5, "Throws IllegalArgumentException if value is out of range", () -> {
            Shop x = new Shop();
            Check.draft(x, "0.5(1.6)");
            Check.argument(x, "value -1", () -> x.set(1, -1));
            Check.argument(x, "value 100", () -> x.set(1, 100));
            Check.is("the value stays", x.set(1, 0), 6);
        });
    }

    private static void moves() {
        Sentences.promise(6, "Moves a node of the draft, with all below it.", () -> {
            Shop x = new Shop();
            int tree = Check.grow(x, "0.0(1.1(1.2(1.3) 1.4) 1.5)");
            x.move(1, 5, 0);
            Check.tree("the draft", x, x.seal(), "0:0(5:5(1:1(2:2(3:3) 4:4)))");
            Check.tree("the tree stays", x, tree, "0:0(1:1(2:2(3:3) 4:4) 5:5)");
        });
        Sentences.promise(6, "mark: a mark of the draft", () -> {
            Shop x = new Shop();
            Check.draft(x, "0.0(1.1 1.2)");
            Check.indexes(x, "mark", 0, 2, i -> x.move(i, 0, 0));
            Check.is("the first", x.move(1, 2, 0), 0);
            Check.is("the last", x.move(2, 0, 0), 0);
        });
        Sentences.promise(6, "parent: a mark of the draft", () -> {
            Shop x = new Shop();
            Check.draft(x, "0.0(1.1 1.2)");
            Check.indexes(x, "parent", 0, 2, i -> x.move(1, i, 0));
            Check.is("the last", x.move(1, 2, 0), 0);
            Check.is("the root", x.move(1, 0, 0), 2);
        });
        Sentences.promise(6, "place: 0 to how many children that has, the node itself not counted;"
                + " it does not matter for the kinds 4 and 5", () -> {
            for (int kind = 0; kind <= 5; kind++) {
                Shop x = new Shop();
                Check.draft(x, kind + ".0(1.1 1.2(1.3) 1.4)");
                x.move(1, 0, 2);
                Check.tree("to the end, under kind " + kind, x, x.seal(),
                        kind < 4 ? "0:0(2:2(3:3) 4:4 1:1)" : "0:0(1:1 2:2(3:3) 4:4)");
                x.move(1, 0, 1);
                Check.tree("between", x, x.seal(), kind < 4 ? "0:0(2:2(3:3) 1:1 4:4)" : "0:0(1:1 2:2(3:3) 4:4)");
                if (kind < 4) {
                    Check.indexes(x, "place among its own", 0, 2, i -> x.move(1, 0, i));
                    Check.indexes(x, "place among others", 0, 3, i -> x.move(3, 0, i));
                    Check.indexes(x, "place in a leaf", 0, 0, i -> x.move(1, 4, i));
                } else {
                    for (int place : Check.outside(0, 2)) {
                        Check.is("place " + place, x.outcome(() -> x.move(1, 0, place)), 0);
                    }
                }
                x.move(3, 0, kind < 4 ? 3 : Integer.MAX_VALUE);
                Check.tree("another one", x, x.seal(), kind < 4 ? "0:0(2:2 1:1 4:4 3:3)" : "0:0(1:1 2:2 3:3 4:4)");
            }
        });
        Sentences.promise(6, "Returns the mark of the parent before.", () -> {
            Shop x = new Shop();
            Check.draft(x, "0.0(1.1(1.2) 1.3)");
            Check.is("a child of 1", x.move(2, 3, 0), 1);
            Check.is("a child of 3", x.move(2, 3, 0), 3);
            Check.is("still", x.move(2, 0, 0), 3);
            Check.is("a child of the root", x.move(2, 1, 0), 0);
        });
    }

    private static void movesRefused() {
        Sentences.promise(6, "Throws IndexOutOfBoundsException if the draft has no such marks, or there is no such place", () -> {
            Shop x = new Shop();
            Check.index(x, "without a draft", () -> x.move(0, 0, 0));
            Check.grow(x, "0.0(1.1)");
            Check.draft(x, "0.0(1.1 1.2(1.3))");
            x.drop(5);
            Check.index(x, "a mark of another tree", () -> x.move(1, 2, 0));
            Check.index(x, "to a parent of another tree", () -> x.move(3, 0, 0));
            Check.index(x, "a mark that was dropped", () -> x.move(5, 2, 0));
            Check.index(x, "to a parent that was dropped", () -> x.move(3, 5, 0));
            Check.index(x, "a mark that is not made yet", () -> x.move(6, 2, 0));
            Check.indexes(x, "place", 0, 1, i -> x.move(3, 2, i));
            Check.index(x, "the root, to no such place", () -> x.move(2, 3, 1));
            Check.index(x, "the root, to no such parent", () -> x.move(2, 0, 0));
            Check.index(x, "below itself, at no such place", () -> x.move(3, 3, 1));
        });
        Sentences.promise(6, "Throws IllegalStateException if it is the root, or parent is the node, or below it", () -> {
            Shop x = new Shop();
            Check.draft(x, "0.0(1.1(4.2(1.3)) 1.4)");
            Check.state(x, "the root", () -> x.move(0, 4, 0));
            Check.state(x, "the root to itself", () -> x.move(0, 0, 0));
            Check.state(x, "to itself", () -> x.move(1, 1, 0));
            Check.state(x, "a leaf to itself", () -> x.move(4, 4, 0));
            Check.state(x, "to its child", () -> x.move(1, 2, 77));
            Check.state(x, "far below itself", () -> x.move(1, 3, 0));
            Check.is("to its parent", x.move(3, 2, 77), 2);
            Check.is("to its parent's parent", x.move(3, 1, 0), 2);
            Check.is("now it is not below", x.move(2, 3, 0), 1);
            Check.tree("the draft", x, x.seal(), "0:0(1:1(3:3(2:2)) 4:4)");
        });
    }

    private static void drops() {
        Sentences.promise(7, "Drops a node of the draft, with all below it.", () -> {
            Shop x = new Shop();
            int tree = Check.grow(x, "0.0(1.1(1.2(1.3) 1.4) 1.5)");
            x.drop(1);
            Check.tree("the draft", x, x.seal(), "0:0(5:5)");
            for (int mark = 1; mark <= 4; mark++) {
                int gone = mark;
                Check.index(x, "mark " + mark, () -> x.set(gone, 0));
            }
            Check.tree("the tree stays", x, tree, "0:0(1:1(2:2(3:3) 4:4) 5:5)");
        });
        Sentences.promise(7, "mark: a mark of the draft", () -> {
            Shop x = new Shop();
            Check.draft(x, "0.0(1.1 1.2)");
            Check.indexes(x, "mark", 0, 2, x::drop);
            Check.is("the last", x.drop(2), 1);
            Check.is("the first", x.drop(1), 1);
        });
        Sentences.promise(7, "Returns how many nodes are gone.", () -> {
            Shop x = new Shop();
            Check.draft(x, "0.0(1.1(1.2(1.3) 1.4) 1.5(1.6))");
            Check.is("a leaf", x.drop(4), 1);
            Check.is("with one below", x.drop(5), 2);
            Check.is("with what is left below", x.drop(1), 3);
            Shop y = new Shop();
            y.copy(wide(y, 50));
            for (int mark = 2; mark < 50; mark++) {
                y.move(mark, 1, 0);
            }
            Check.is("49 of 50", y.drop(1), 49);
            Check.is("one is left", y.size(y.seal()), 1);
        });
        Sentences.promise(7, "Throws IndexOutOfBoundsException if the draft has no such mark", () -> {
            Shop x = new Shop();
            Check.index(x, "without a draft", () -> x.drop(0));
            Check.grow(x, "0.0(1.1)");
            Check.draft(x, "0.0(1.1)");
            Check.index(x, "a mark of another tree", () -> x.drop(1));
            Check.index(x, "the root of another tree", () -> x.drop(0));
            Check.index(x, "a mark that is not made yet", () -> x.drop(4));
            x.drop(3);
            Check.index(x, "a mark that was dropped", () -> x.drop(3));
        });
        Sentences.promise(7, "Throws IllegalStateException if it is the root", () -> {
            Shop x = new Shop();
            Check.draft(x, "0.0(1.1)");
            Check.state(x, "the root", () -> x.drop(0));
            x.drop(1);
            Check.state(x, "the root alone", () -> x.drop(0));
            x.begin(0, 0, NONE);
            Check.state(x, "another root", () -> x.drop(2));
        });
    }

    private static void seals() {
        Sentences.promise(8, "Makes a copy of the draft a tree; the draft stays.", () -> {
            Shop x = new Shop();
            Check.draft(x, "0.0(1.1)");
            int one = x.seal();
            Check.is("the draft stays", x.set(1, 5), 1);
            Check.is("and grows", x.node(1, 0, 1, 6, NONE), 2);
            int two = x.seal();
            x.drop(1);
            Check.tree("the first", x, one, "0:0(1:1)");
            Check.tree("the second", x, two, "0:0(1:5(2:6))");
            Check.tree("the third", x, x.seal(), "0:0");
        });
        Sentences.promise(8, "Returns the number of the tree.", () -> {
            Shop x = new Shop();
            x.begin(0, 7, NONE);
            for (int tree = 0; tree < 3; tree++) {
                Check.is("the number", x.seal(), tree);
                Check.is("its root", x.markAt(tree, 0), 0);
            }
        });
        Sentences.promise(8, "Throws IllegalStateException if there is no draft, or there are 40 trees", () -> {
            Shop x = new Shop();
            Check.state(x, "no draft", x::seal);
            x.begin(0, 0, NONE);
            for (int tree = 0; tree < 39; tree++) {
                x.seal();
            }
            Check.is("the 40th", x.seal(), 39);
            Check.state(x, "one more", x::seal);
            x.begin(0, 0, NONE);
            Check.state(x, "one more of another draft", x::seal);
            Check.is("how many", x.trees(), 40);
        });
    }
}
