/** What the document says of trees as they are: a test for each sentence. */
final class TreeSentences {
    private static final int NONE = TwigPatch.NONE;

    private TreeSentences() {
    }

    static void check() {
        alike();
        same();
        counts();
        marks();
        values();
        parents();
        tellsAlike();
        tellsSame();
    }

    private static void alike(String one, String two, boolean due) {
        Shop x = new Shop();
        int a = Check.grow(x, one);
        int b = Check.grow(x, two);
        Check.is(one + " alike " + two, x.areAlike(a, b), due);
        Check.is(two + " alike " + one, x.areAlike(b, a), due);
    }

    // ---- the terms

    private static void alike() {
        Sentences.holds("Trees", "Two trees are alike if their roots are: of the same kind, value and identity,"
                + " with as many children, which are alike one by one", () -> {
            alike("0.0", "0.0", true);
            alike("3.99#99", "3.99#99", true);
            for (int kind = 1; kind <= 5; kind++) {
                alike("0.0", kind + ".0", false);
            }
            alike("0.0", "0.1", false);
            alike("0.0#0", "0.0", false);
            alike("0.0#0", "0.0#1", false);
            alike("0.0(1.1)", "0.0", false);
            alike("0.0(1.1)", "0.0(1.1 1.1)", false);
            alike("0.0(1.1 1.1)", "0.0(1.1(1.1))", false);
            alike("3.0(1.1 1.2)", "3.0(1.1 1.2)", true);
            alike("3.0(1.1 1.2)", "3.0(1.2 1.1)", false);
            alike("3.0(1.1(2.2 2.3) 1.1)", "3.0(1.1(2.2 2.3) 1.1)", true);
            alike("3.0(1.1(2.2 2.3) 1.1)", "3.0(1.1 1.1(2.2 2.3))", false);
            alike("3.0(1.1(2.2(3.3)))", "3.0(1.1(2.2(3.4)))", false);
            alike("3.0(1.1(2.2(3.3#4)))", "3.0(1.1(2.2(3.3#5)))", false);
        });
        Sentences.holds("Trees", "for the kinds 4 and 5, each of the one in order with the first one of the other"
                + " that is alike and was not taken yet", () -> {
            for (int kind = 4; kind <= 5; kind++) {
                alike(kind + ".0(1.1 1.2 1.3)", kind + ".0(1.3 1.1 1.2)", true);
                alike(kind + ".0(1.1 1.1 1.2)", kind + ".0(1.1 1.2 1.2)", false);
                alike(kind + ".0(1.1 1.1 1.2)", kind + ".0(1.2 1.1 1.1)", true);
                alike(kind + ".0(1.1 1.2)", kind + ".0(1.1)", false);
                alike(kind + ".0(1.1(2.2) 1.1)", kind + ".0(1.1 1.1(2.2))", true);
                alike(kind + ".0(1.1(2.2) 1.1)", kind + ".0(1.1 1.1(2.3))", false);
                alike(kind + ".0(3.1(2.2 2.3) 1.1)", kind + ".0(1.1 3.1(2.3 2.2))", false);
                alike(kind + ".0(4.1(2.2 2.3) 5.1(2.4 2.5))", kind + ".0(5.1(2.5 2.4) 4.1(2.3 2.2))", true);
            }
            alike("4.0(1.1)", "5.0(1.1)", false);
            alike("3.0(4.1(1.1) 4.1(1.2))", "3.0(4.1(1.2) 4.1(1.1))", false);
        });
    }

    private static void same() {
        Sentences.holds("Trees", "Two trees are the same if they have the same marks, with the same values and parents,"
                + " in the same orders.", () -> {
            Shop x = new Shop();
            int one = Check.grow(x, "0.0(1.1 1.2 1.3)");
            int again = x.seal();
            same(x, one, again, true);
            x.set(3, 4);
            same(x, one, x.seal(), false);
            x.set(3, 3);
            same(x, one, x.seal(), true);
            x.move(3, 2, 0);
            same(x, one, x.seal(), false);
            x.move(3, 0, 0);
            same(x, one, x.seal(), false);
            x.move(3, 0, 2);
            same(x, one, x.seal(), true);
            x.drop(3);
            same(x, one, x.seal(), false);
            x.node(0, 2, 1, 3, NONE);
            int other = x.seal();
            same(x, one, other, false);
            Check.is("though alike", x.areAlike(one, other), true);
            same(x, one, Check.grow(x, "0.0(1.1 1.2 1.3)"), false);
        });
    }

    private static void same(Shop x, int tree, int other, boolean due) {
        Check.is(Check.told(x, tree) + " same " + Check.told(x, other), x.areSame(tree, other), due);
        Check.is(Check.told(x, other) + " same " + Check.told(x, tree), x.areSame(other, tree), due);
    }

    // ---- promises

    private static void counts() {
        Sentences.promise(18, "Returns how many trees there are.", () -> {
            Shop x = new Shop();
            Check.asked(x, "none", 0, x::trees);
            x.begin(0, 0, NONE);
            Check.asked(x, "a draft is no tree", 0, x::trees);
            for (int tree = 1; tree <= 40; tree++) {
                x.seal();
                Check.is("trees", x.trees(), tree);
            }
            Check.state(x, "no more", x::seal);
            Check.asked(x, "still", 40, x::trees);
        });
        Sentences.promise(19, "Returns how many nodes a tree has.", () -> {
            Shop x = new Shop();
            int one = Check.grow(x, "0.0");
            int two = Check.grow(x, "0.0(1.1)");
            Check.asked(x, "one", 1, () -> x.size(one));
            Check.asked(x, "two", 2, () -> x.size(two));
        });
        Sentences.promise(19, "tree: its number", () -> {
            Shop x = new Shop();
            x.begin(0, 0, NONE);
            for (int tree = 0; tree < 20; tree++) {
                x.seal();
                x.node(0, 0, 1, 1, NONE);
            }
            for (int tree = 0; tree < 20; tree++) {
                Check.is("size of " + tree, x.size(tree), tree + 1);
            }
        });
        Sentences.promise(19, "Returns how many.", () -> {
            Shop x = new Shop();
            Check.is("all marks in one tree", x.size(DraftSentences.wide(x, 300)), 300);
        });
        Sentences.promise(19, "Throws IndexOutOfBoundsException if there is no such tree", () -> {
            Shop x = new Shop();
            Check.indexes(x, "size of", 0, -1, x::size);
            x.begin(0, 0, NONE);
            Check.indexes(x, "size of", 0, -1, x::size);
            x.seal();
            Check.indexes(x, "size of", 0, 0, x::size);
            for (int tree = 1; tree < 40; tree++) {
                x.seal();
            }
            Check.is("the last", x.size(39), 1);
            Check.indexes(x, "size of", 0, 39, x::size);
        });
    }

    private static void marks() {
        Sentences.promise(20, "Returns the mark of a node of a tree.", () -> {
            Shop x = new Shop();
            Check.begun(x, 3);
            int tree = Check.grow(x, "0.0(1.1)");
            Check.asked(x, "the root", 3, () -> x.markAt(tree, 0));
            Check.asked(x, "its child", 4, () -> x.markAt(tree, 1));
        });
        Sentences.promise(20, "tree: its number", () -> {
            Shop x = new Shop();
            for (int tree = 0; tree < 40; tree++) {
                Check.grow(x, "0.0");
            }
            for (int tree = 0; tree < 40; tree++) {
                Check.is("the root of " + tree, x.markAt(tree, 0), tree);
            }
        });
        Sentences.promise(20, "place: from 0: its place in order", () -> {
            Shop x = new Shop();
            int tree = Check.grow(x, "0.0(1.1(1.2 1.3) 1.4(1.5))");
            x.move(3, 1, 0);
            x.move(4, 0, 0);
            int two = x.seal();
            int[] due = {0, 4, 5, 1, 3, 2};
            for (int place = 0; place < 6; place++) {
                Check.is("place " + place, x.markAt(tree, place), place);
                Check.is("place " + place, x.markAt(two, place), due[place]);
            }
        });
        Sentences.promise(20, "Returns the mark.", () -> {
            Shop x = new Shop();
            for (int mark = 0; mark < 299; mark++) {
                x.begin(0, 0, NONE);
            }
            x.node(298, 0, 0, 0, NONE);
            int tree = x.seal();
            Check.is("the last but one", x.markAt(tree, 0), 298);
            Check.is("the last mark of all", x.markAt(tree, 1), 299);
        });
        Sentences.promise(20, "Throws IndexOutOfBoundsException if there is no such tree or place", () -> {
            Shop x = new Shop();
            Check.index(x, "no tree at all", () -> x.markAt(0, 0));
            Check.grow(x, "0.0(1.1 1.2)");
            Check.grow(x, "0.0");
            Check.indexes(x, "place", 0, 2, i -> x.markAt(0, i));
            Check.indexes(x, "place", 0, 0, i -> x.markAt(1, i));
            Check.indexes(x, "tree", 0, 1, i -> x.markAt(i, 0));
            Check.index(x, "neither", () -> x.markAt(2, 3));
        });
    }

    private static void values() {
        Sentences.promise(21, "Returns the value of a node of a tree.", () -> {
            Shop x = new Shop();
            int one = Check.grow(x, "0.0(1.99)");
            x.set(1, 3);
            int two = x.seal();
            x.set(1, 4);
            Check.asked(x, "in the one", 99, () -> x.value(one, 1));
            Check.asked(x, "in the other one", 3, () -> x.value(two, 1));
            Check.asked(x, "of the root", 0, () -> x.value(two, 0));
        });
        Sentences.promise(21, "tree: its number", () -> {
            Shop x = new Shop();
            x.begin(0, 0, NONE);
            for (int tree = 0; tree < 40; tree++) {
                x.set(0, tree);
                x.seal();
            }
            for (int tree = 0; tree < 40; tree++) {
                Check.is("the value in " + tree, x.value(tree, 0), tree);
            }
        });
        Sentences.promise(21, "mark: a mark", () -> {
            Shop x = new Shop();
            x.begin(0, 0, NONE);
            x.node(0, 0, 0, 1, NONE);
            x.seal();
            for (int mark = 2; mark < 300; mark++) {
                x.begin(0, 50, NONE);
            }
            x.seal();
            Check.is("a mark of the tree", x.value(0, 1), 1);
            Check.is("a mark of none", x.value(0, 2), NONE);
            Check.is("the last mark of all, elsewhere", x.value(0, 299), NONE);
            Check.is("the last mark of all", x.value(1, 299), 50);
            Check.is("a mark of another tree", x.value(1, 0), NONE);
        });
        Sentences.promise(21, "Returns the value; NONE if the tree does not have the mark.", () -> {
            Shop x = new Shop();
            int one = Check.grow(x, "0.0(1.1)");
            x.drop(1);
            int two = x.seal();
            int three = Check.grow(x, "0.7");
            Check.is("it has", x.value(one, 1), 1);
            Check.is("value 0 is one", x.value(two, 0), 0);
            Check.is("it was dropped", x.value(two, 1), NONE);
            Check.is("another root", x.value(three, 0), NONE);
            x.node(2, 0, 1, 1, NONE);
            Check.asked(x, "just drafted", NONE, () -> x.value(three, 3));
        });
        Sentences.promise(21, "Throws IndexOutOfBoundsException if there is no such tree or mark", () -> {
            Shop x = new Shop();
            Check.index(x, "nothing at all", () -> x.value(0, 0));
            x.begin(0, 0, NONE);
            Check.index(x, "a mark, but no tree", () -> x.value(0, 0));
            x.seal();
            x.node(0, 0, 0, 0, NONE);
            Check.indexes(x, "mark", 0, 1, i -> x.value(0, i));
            Check.indexes(x, "tree", 0, 0, i -> x.value(i, 0));
            for (int mark = 2; mark < 300; mark++) {
                x.begin(0, 0, NONE);
            }
            Check.indexes(x, "mark", 0, 299, i -> x.value(0, i));
        });
    }

    private static void parents() {
        Sentences.promise(22, "Returns the parent of a node of a tree.", () -> {
            Shop x = new Shop();
            int one = Check.grow(x, "0.0(1.1(1.2) 1.3)");
            x.move(2, 3, 0);
            int two = x.seal();
            Check.asked(x, "in the one", 1, () -> x.parent(one, 2));
            Check.asked(x, "in the other one", 3, () -> x.parent(two, 2));
            Check.asked(x, "of a child of the root", 0, () -> x.parent(two, 3));
        });
        Sentences.promise(22, "tree: its number", () -> {
            Shop x = new Shop();
            Check.draft(x, "0.0(1.1 1.2)");
            for (int tree = 0; tree < 40; tree++) {
                x.move(1, tree % 3 == 0 ? 2 : 0, 0);
                x.seal();
            }
            for (int tree = 0; tree < 40; tree++) {
                Check.is("the parent in " + tree, x.parent(tree, 1), tree % 3 == 0 ? 2 : 0);
            }
        });
        Sentences.promise(22, "mark: a mark", () -> {
            Shop x = new Shop();
            x.begin(0, 0, NONE);
            x.node(0, 0, 0, 1, NONE);
            x.seal();
            for (int mark = 2; mark < 299; mark++) {
                x.begin(0, 50, NONE);
            }
            x.node(298, 0, 0, 0, NONE);
            x.seal();
            Check.is("a mark of the tree", x.parent(0, 1), 0);
            Check.is("a mark of none", x.parent(0, 2), NONE);
            Check.is("the last mark of all", x.parent(1, 299), 298);
            Check.is("the last mark of all, elsewhere", x.parent(0, 299), NONE);
        });
        Sentences.promise(22, "Returns the mark of the parent; NONE for the root, or if the tree does not have the mark.", () -> {
            Shop x = new Shop();
            int one = Check.grow(x, "0.0(1.1)");
            x.drop(1);
            int two = x.seal();
            Check.is("mark 0 is a parent", x.parent(one, 1), 0);
            Check.is("the root", x.parent(one, 0), NONE);
            Check.is("it was dropped", x.parent(two, 1), NONE);
            int three = Check.grow(x, "0.7");
            Check.is("another root", x.parent(three, 2), NONE);
            Check.is("a root elsewhere", x.parent(three, 0), NONE);
        });
        Sentences.promise(22, "Throws IndexOutOfBoundsException if there is no such tree or mark", () -> {
            Shop x = new Shop();
            Check.index(x, "nothing at all", () -> x.parent(0, 0));
            x.begin(0, 0, NONE);
            Check.index(x, "a mark, but no tree", () -> x.parent(0, 0));
            x.seal();
            x.node(0, 0, 0, 0, NONE);
            Check.indexes(x, "mark", 0, 1, i -> x.parent(0, i));
            Check.indexes(x, "tree", 0, 0, i -> x.parent(i, 0));
            for (int mark = 2; mark < 300; mark++) {
                x.begin(0, 0, NONE);
            }
            Check.indexes(x, "mark", 0, 299, i -> x.parent(0, i));
        });
    }

    private static void tellsAlike() {
        Sentences.promise(23, "Tells whether two trees are alike.", () -> {
            Shop x = new Shop();
            int one = Check.grow(x, "4.0(1.1(2.2) 1.3)");
            int two = Check.grow(x, "4.0(1.3 1.1(2.2))");
            int three = Check.grow(x, "4.0(1.3 1.1(2.3))");
            Check.asked(x, "alike", true, () -> x.areAlike(one, two));
            Check.asked(x, "not alike", false, () -> x.areAlike(one, three));
            Check.asked(x, "with itself", true, () -> x.areAlike(one, one));
        });
        Sentences.promise(23, "tree: its number", () -> {
            Shop x = new Shop();
            Check.grow(x, "0.0");
            Check.grow(x, "0.1");
            Check.grow(x, "0.0");
            Check.indexes(x, "tree", 0, 2, i -> x.areAlike(i, 0));
            Check.is("the last", x.areAlike(2, 0), true);
            Check.is("the middle", x.areAlike(1, 0), false);
        });
        Sentences.promise(23, "other: its number", () -> {
            Shop x = new Shop();
            Check.grow(x, "0.0");
            Check.grow(x, "0.1");
            Check.grow(x, "0.0");
            Check.indexes(x, "other", 0, 2, i -> x.areAlike(0, i));
            Check.is("the last", x.areAlike(0, 2), true);
            Check.is("the middle", x.areAlike(0, 1), false);
        });
        Sentences.promise(23, "Returns whether they are.", () -> {
            Shop x = new Shop();
            int wide = DraftSentences.wide(x, 300);
            x.copy(wide);
            int copy = x.seal();
            x.set(299, 99);
            int other = x.seal();
            x.set(299, 1);
            x.set(1, 99);
            int another = x.seal();
            Check.is("300 nodes", x.areAlike(wide, copy), true);
            Check.is("but for one", x.areAlike(wide, other), false);
            Check.is("but for another one", x.areAlike(wide, another), false);
            Check.is("but for two", x.areAlike(other, another), false);
        });
        Sentences.promise(23, "Throws IndexOutOfBoundsException if there are no such trees", () -> {
            Shop x = new Shop();
            Check.index(x, "none", () -> x.areAlike(0, 0));
            Check.grow(x, "0.0");
            Check.index(x, "no tree", () -> x.areAlike(1, 0));
            Check.index(x, "no other", () -> x.areAlike(0, 1));
            Check.index(x, "neither", () -> x.areAlike(1, 1));
            Check.index(x, "tree -1", () -> x.areAlike(-1, 0));
            Check.index(x, "other -1", () -> x.areAlike(0, -1));
        });
    }

    private static void tellsSame() {
        Sentences.promise(24, "Tells whether two trees are the same.", () -> {
            Shop x = new Shop();
            int one = Check.grow(x, "0.0(1.1(2.2) 1.3)");
            int two = x.seal();
            x.move(3, 0, 0);
            int three = x.seal();
            Check.asked(x, "the same", true, () -> x.areSame(one, two));
            Check.asked(x, "not the same", false, () -> x.areSame(one, three));
            Check.asked(x, "with itself", true, () -> x.areSame(one, one));
        });
        Sentences.promise(24, "tree: its number", () -> {
            Shop x = new Shop();
            Check.grow(x, "0.0");
            x.set(0, 1);
            x.seal();
            x.set(0, 0);
            x.seal();
            Check.indexes(x, "tree", 0, 2, i -> x.areSame(i, 0));
            Check.is("the last", x.areSame(2, 0), true);
            Check.is("the middle", x.areSame(1, 0), false);
        });
        Sentences.promise(24, "other: its number", () -> {
            Shop x = new Shop();
            Check.grow(x, "0.0");
            x.set(0, 1);
            x.seal();
            x.set(0, 0);
            x.seal();
            Check.indexes(x, "other", 0, 2, i -> x.areSame(0, i));
            Check.is("the last", x.areSame(0, 2), true);
            Check.is("the middle", x.areSame(0, 1), false);
        });
        Sentences.promise(24, "Returns whether they are.", () -> {
            Shop x = new Shop();
            int wide = DraftSentences.wide(x, 150);
            x.copy(wide);
            int copy = x.seal();
            // One that has all marks but the last ones, in the same places.
            x.drop(149);
            x.drop(148);
            int fewer = x.seal();
            Check.is("150 nodes", x.areSame(wide, copy), true);
            same(x, wide, fewer, false);
        });
        Sentences.promise(24, "Throws IndexOutOfBoundsException if there are no such trees", () -> {
            Shop x = new Shop();
            Check.index(x, "none", () -> x.areSame(0, 0));
            Check.grow(x, "0.0");
            Check.index(x, "no tree", () -> x.areSame(1, 0));
            Check.index(x, "no other", () -> x.areSame(0, 1));
            Check.index(x, "neither", () -> x.areSame(1, 1));
            Check.index(x, "tree -1", () -> x.areSame(-1, 0));
            Check.index(x, "other -1", () -> x.areSame(0, -1));
        });
    }
}
