/** What the document says of matching: a test for each sentence. */
final class MatchSentences {
    private static final int NONE = TwigPatch.NONE;

    private MatchSentences() {
    }

    static void check() {
        whatIsMatched();
        marksAndRoots();
        identities();
        alike();
        fromAbove();
        fromBelow();
        likenessIs();
        match();
        likeness();
    }

    private static void matching(String words, Runnable test) {
        Sentences.holds("Matching", words, test);
    }

    /** Told as in MatchTest: the numbers of new nodes count from 0 for the new root. */
    private static void matched(String old, String young, int... due) {
        MatchTest.matched(old, young, due);
    }

    private static String leaves(int kind, int from, int count) {
        StringBuilder text = new StringBuilder();
        for (int i = 0; i < count; i++) {
            text.append(kind).append('.').append(from + i).append(' ');
        }
        return text.toString();
    }

    // ---- the terms

    private static void whatIsMatched() {
        matching("The nodes of a tree, the old one, are matched with nodes of another tree, the new one,"
                + " each with one at most, and only with such as have the same kind and identity (perhaps both none)", () -> {
            matched("0.0(1.1 1.1 1.1)", "0.0(1.1 1.1)", 0, 1, 2, NONE);
            matched("0.0(1.1 1.1)", "0.0(1.1 1.1 1.1)", 0, 1, 2);
            matched("0.0(1.1 2.1 3.1)", "0.0(3.1 1.1 2.1)", 0, 2, 3, 1);
            matched("0.0(1.1)", "0.0(2.1 1.1#0 1.1#1)", 0, NONE);
            matched("0.0(1.1#0)", "0.0(2.1#0 1.1 1.1#1)", 0, NONE);
            matched("0.0(1.1#99)", "0.0(2.1#99 1.1 1.1#98 1.2#99)", 0, 4);
            matched("0.0(4.1(2.1 2.2))", "0.0(3.0(5.1(2.1 2.2)))", 0, NONE, 3, 4);
            matched("0.0(1.1(2.1 2.2))", "0.0(3.0(1.1#0(2.1 2.2)))", 0, NONE, 3, 4);
        });
        matching("the roots have to have the same, too.", () -> {
            Shop x = new Shop();
            Check.grow(x, "0.0(1.1)");
            Check.grow(x, "1.0(1.1)");
            Check.grow(x, "0.0#0(1.1)");
            Check.grow(x, "0.0#1(1.1)");
            Check.grow(x, "0.9(1.1)");
            for (int from = 0; from < 4; from++) {
                for (int to = 0; to < 4; to++) {
                    int a = from;
                    int b = to;
                    if (a == b) {
                        Check.is("with itself", x.match(a, b, 2 * a), 2 * a);
                    } else {
                        Check.state(x, "match " + a + ", " + b, () -> x.match(a, b, 2 * a));
                        Check.state(x, "likeness " + a + ", " + b, () -> x.likeness(a, b, 2 * a, 2 * b));
                        Check.state(x, "find " + a + ", " + b, () -> x.find(a, b));
                    }
                }
            }
            Check.is("values may be unlike", x.match(0, 4, 0), 8);
        });
    }

    private static void marksAndRoots() {
        matching("Each old node with the new one of the same mark, if there is one.", () -> {
            Shop x = new Shop();
            int one = Check.grow(x, "0.0(1.1(2.2) 1.1 1.3)");
            x.move(2, 0, 0);
            x.move(1, 4, 0);
            x.set(1, 50);
            x.drop(3);
            x.node(0, 0, 1, 1, NONE);
            int two = x.seal();
            Check.tree("the new one", x, two, "0:0(5:1 2:2 4:3(1:50))");
            Check.is("the root", x.match(one, two, 0), 0);
            Check.is("elsewhere, with another value", x.match(one, two, 1), 1);
            Check.is("not below it any more", x.match(one, two, 2), 2);
            Check.is("a mark that is gone", x.match(one, two, 3), 5);
            Check.is("the last one", x.match(one, two, 4), 4);
            Check.is("the other way", x.match(two, one, 5), 3);
            Check.is("with itself", x.match(one, one, 3), 3);
        });
        matching("The roots, if neither is matched.", () -> {
            matched("0.1", "0.99", 0);
            matched("5.1#7(1.1)", "5.2#7(2.1)", 0, NONE);
            // The root is not matched with one below the root, however alike that is.
            matched("0.1(1.1)", "0.2(0.1(1.1))", 0, 2);
            matched("0.1#3(1.1)", "0.2#3(0.1#3(1.1))", 0, 2);
            Shop x = new Shop();
            int one = Check.grow(x, "0.1");
            x.set(0, 2);
            Check.is("matched by their mark", x.match(one, x.seal(), 0), 0);
        });
    }

    private static void identities() {
        matching("Each old node in order that has an identity and is not matched, with the first new node in order,"
                + " not matched, that has the same one.", () -> {
            matched("0.0(1.1#0)", "0.0(1.1 2.1(1.9#0) 1.1#0)", 0, 3);
            matched("0.0(1.1#5 1.2#5)", "0.0(3.0(1.2#5) 1.1#5)", 0, 2, 3);
            matched("0.0(1.1#5 1.2#5 1.3#5)", "0.0(1.9#5)", 0, 1, NONE, NONE);
            matched("0.0(1.1#5(1.2#6))", "0.0(1.3#6(1.4#5))", 0, 2, 1);
            matched("0.0(1.1(1.2#6) 1.3#6)", "0.0(1.3#6 1.1(1.2#6))", 0, 2, 1, 3);
            Shop x = new Shop();
            int one = Check.grow(x, "0.0(1.1#5 1.2#5)");
            x.drop(1);
            x.node(0, 1, 1, 7, 5);
            int two = x.seal();
            Check.is("the first is matched by its mark", x.match(one, two, 1), 3);
            Check.is("and stays so", x.match(one, two, 2), 2);
        });
    }

    private static void alike() {
        matching("Each old node in order that is not matched, nor anything below it, with the first new node in order"
                + " that is so, too, and alike", () -> {
            matched("0.0(1.1(2.2 2.3))", "0.0(3.0(1.1(2.2 2.3)) 1.1(2.2 2.3))", 0, 2, 3, 4);
            matched("0.0(1.1(2.2 2.3))", "0.0(1.1(2.3 2.2) 3.0(1.1(2.2 2.3)))", 0, 5, 6, 7);
            matched("0.0(1.1(2.2) 2.2)", "0.0(2.2 1.1(2.2))", 0, 2, 3, 1);
            // One node below the old one is matched by its identity, far below the new one.
            matched("0.0(1.1(2.2(2.3#4)))", "0.0(1.9 3.0(1.1(2.2(2.3#4))))", 0, 1, 4, 5);
            // One node below the new one is matched by its identity.
            matched("0.0(2.0#4 1.1(2.2))", "0.0(3.0(1.1(2.2 2.0#4)) 1.1(2.2))", 0, 4, 5, 6);
            // The first new one was taken by the first old one.
            matched("0.0(1.1 1.1)", "0.0(3.0(1.1) 3.0(1.1))", 0, 2, 4);
            // Below the new one, one was taken just before.
            matched("0.0(2.2 3.1(1.1(2.2)))", "0.0(1.1(2.2) 3.8)", 0, 2, 3, NONE, NONE);
            matched("0.0(2.2 3.1(1.1(4.1(2.2))))", "0.0(1.1(4.1(2.2)) 3.8)", 0, 3, 4, NONE, NONE, NONE);
            // What comes behind those that are alike stays as it is matched.
            matched("0.0(1.1(2.2) 3.0(2.9#5))", "0.0(1.1(2.2) 2.7#5)", 0, 1, 2, NONE, 3);
        });
        matching("and with these what is below, each with that which was found alike to it.", () -> {
            matched("0.0(1.1(2.2 2.2(2.3)))", "0.0(2.3 2.2 3.0(1.1(2.2 2.2(2.3))))", 0, 4, 5, 6, 7);
            matched("0.0(4.1(2.2 2.3))", "0.0(2.3 2.2 3.0(4.1(2.3 2.2)))", 0, 4, 6, 5);
            matched("0.0(4.1(2.2 2.2))", "0.0(2.2 3.0(4.1(2.2 2.2)))", 0, 3, 4, 5);
            matched("0.0(5.1(4.2(1.3 1.4) 4.2(1.5)))", "0.0(4.2(1.5) 3.0(5.1(4.2(1.5) 4.2(1.4 1.3))))",
                    0, 4, 7, 9, 8, 5, 6);
        });
    }

    private static void fromAbove() {
        matching("Each new node in order that is matched: each of its children in order that is not matched, with the"
                + " first child in order of its old one that is not matched, and has the same value", () -> {
            matched("0.0(1.5(2.1) 1.6(2.2))", "0.0(1.6(2.3) 1.5(2.4))", 0, 3, 4, 1, 2);
            matched("0.0(1.5(2.1) 1.5(2.2))", "0.0(1.5(2.3) 1.5(2.4))", 0, 1, 2, 3, 4);
            matched("0.0(1.5(2.1) 1.5(2.2))", "0.0(3.0 1.5(2.3))", 0, 2, 3, NONE, NONE);
            // The child of another one is not taken, nor one of another kind or identity.
            matched("0.0(1.5(2.1))", "0.0(3.0(1.5(2.3)))", 0, NONE, NONE);
            matched("0.0(1.5(2.1))", "0.0(2.5(2.3) 1.5#1(2.3))", 0, NONE, NONE);
            matched("0.0(1.5(2.1) 1.5(2.2))", "0.0(1.5#7(2.3) 1.5(2.2 2.9))", 0, 3, 5, NONE, 4);
        });
        matching("then, for all new nodes so, likewise, without looking at values.", () -> {
            matched("0.0(1.1 1.2)", "0.0(1.3 1.4 1.5)", 0, 1, 2);
            matched("0.0(1.1 1.2 1.3)", "0.0(1.4 1.5)", 0, 1, 2, NONE);
            // First all those with the same value, those further down, too.
            matched("0.0(1.5(2.1 2.2) 1.6(2.2))", "0.0(1.7(2.3) 1.5(2.4 2.1(3.3)))", 0, 3, 5, 4, 1, 2);
            matched("0.0(1.1(2.1))", "0.0(1.2 2.5)", 0, 1, NONE);
        });
        matching("(A child that is matched by that is itself such a node, when it is come to.)", () -> {
            matched("0.0(1.1(1.1(1.1(3.1))))", "0.0(1.1(1.1(1.1(3.2))))", 0, 1, 2, 3, 4);
            matched("0.0(1.1(1.2(1.3(3.4))))", "0.0(1.5(1.6(1.7(3.8))))", 0, 1, 2, 3, 4);
            // Those below one that was matched without values are matched without values.
            matched("0.0(1.1(2.1(3.1) 2.2(3.2)))", "0.0(1.9(2.2(3.8) 2.1(3.9)))", 0, 1, 2, 3, 4, 5);
            matched("0.0(1.1(2.1(3.1) 2.2(3.2)))", "0.0(1.1(2.2(3.8) 2.1(3.9)))", 0, 1, 4, 5, 2, 3);
        });
    }

    private static void fromBelow() {
        matching("Each old node, the last one in order first, that is not matched, with that new node, not matched,"
                + " with which its likeness is greatest, of several the first one in order, if that is at least 0.5", () -> {
            // The parts are told as: how many below the old one, how many below the new one, how many in common.
            halved(1, 3, 1, true);
            halved(1, 4, 1, false);
            halved(3, 1, 1, true);
            halved(4, 1, 1, false);
            halved(3, 9, 3, true);
            halved(5, 15, 5, true);
            halved(5, 16, 5, false);
            halved(16, 5, 5, false);
            halved(10, 10, 5, true);
            halved(11, 10, 5, false);
            halved(2, 2, 2, true);
            // The greatest, be it the first or the last one; of several the first one.
            matched("0.0(1.0(2.1 2.2))", "0.0(3.0(1.9(2.1 2.7) 1.9(2.2)))", 0, 5, 3, 6);
            matched("0.0(1.0(2.1 2.2))", "0.0(3.0(1.9(2.1) 1.9(2.2 2.7)))", 0, 2, 3, 5);
            matched("0.0(1.0(2.1 2.2))", "0.0(3.0(1.9(2.1) 1.9(2.2)))", 0, 2, 3, 5);
            // One that is matched already, or of another kind or identity, is not taken.
            matched("0.0(1.0(2.1 2.2))", "0.0(3.0(1.9#3(2.1) 2.9(2.2)))", 0, NONE, 3, 5);
            // The last old one first.
            matched("0.0(1.0(2.1 2.2) 1.5(2.3 2.4))", "0.0(3.0(1.9(2.1 2.2 2.3 2.4)))", 0, NONE, 3, 4, 2, 5, 6);
            matched("0.0(1.0(1.5(2.1)))", "0.0(3.0(1.9(1.8(2.1))))", 0, 2, 3, 4);
        });
    }

    /** Two nodes, below which there are so many nodes, and so many alike, are matched, or are not. */
    private static void halved(int belowOld, int belowNew, int common, boolean due) {
        String same = leaves(2, 0, common);
        String old = "0.0(1.0(" + same + leaves(2, 30, belowOld - common) + "))";
        String young = "0.0(3.0(1.9(" + same + leaves(2, 60, belowNew - common) + ")))";
        matched(old, young, 0, due ? 2 : NONE);
        Shop x = new Shop();
        int from = Check.grow(x, old);
        int to = Check.grow(x, young);
        int shift = x.size(from);
        float likeness = (float) (2 * common) / (float) (belowOld + belowNew);
        Check.is("likeness", x.likeness(from, to, 1, shift + 2), likeness);
    }

    private static void likenessIs() {
        matching("the likeness is a float: twice how many nodes below the one are matched with nodes below the other,"
                + " as a float, divided by how many nodes are below both, together, as a float", () -> {
            Shop x = new Shop();
            int one = Check.grow(x, "0.0(1.1(2.1 2.2) 1.3(2.3))");
            int two = Check.grow(x, "0.0(1.1(2.1 2.3 2.4 2.5) 1.3(2.2 2.6 2.7))");
            Check.is("all", x.likeness(one, two, 0, 6), 10f / 14f);
            Check.is("1 of 2 and 4", x.likeness(one, two, 1, 7), 2f / 6f);
            Check.is("1 of 2 and 3", x.likeness(one, two, 1, 12), 2f / 5f);
            Check.is("1 of 1 and 4", x.likeness(one, two, 4, 7), 2f / 5f);
            Check.is("0 of 1 and 3", x.likeness(one, two, 4, 12), 0f);
            Check.is("with the root", x.likeness(one, two, 1, 6), 4f / 11f);
            Check.is("the root with one", x.likeness(one, two, 0, 7), 4f / 9f);
        });
        matching("0 if there are none", () -> {
            Shop x = new Shop();
            int one = Check.grow(x, "0.0(1.1 1.2(2.2))");
            int two = Check.grow(x, "0.0(1.1 1.2(2.2))");
            Check.is("matched leaves", x.match(one, two, 1), 5);
            Check.is("none below both", x.likeness(one, two, 1, 5), 0f);
            Check.is("none below the old one", x.likeness(one, two, 1, 6), 0f);
            Check.is("none below the new one", x.likeness(one, two, 2, 5), 0f);
            int root = Check.grow(x, "0.0");
            Check.is("roots alone", x.likeness(root, root, 8, 8), 0f);
            // Leaves are matched with none from below.
            matched("0.0(1.1(2.2))", "0.0(3.0(1.1(2.3)) 2.2)", 0, NONE, 4);
        });
    }

    // ---- promises

    private static void match() {
        Sentences.promise(25, "Returns with which node one is matched.", () -> {
            Shop x = new Shop();
            int one = Check.grow(x, "0.0(1.1 1.2)");
            int two = Check.grow(x, "0.0(1.2 1.1)");
            Check.asked(x, "the first", 5, () -> x.match(one, two, 1));
            Check.asked(x, "the second", 4, () -> x.match(one, two, 2));
            Check.asked(x, "the other way", 2, () -> x.match(two, one, 4));
        });
        Sentences.promise(25, "from: the number of the old tree", () -> {
            Shop x = grown();
            Check.is("the last", x.match(2, 0, 4), 0);
            Check.indexes(x, "from", 0, 2, i -> x.match(i, 0, 0));
        });
        Sentences.promise(25, "to: that of the new tree", () -> {
            Shop x = grown();
            Check.is("the last", x.match(0, 2, 0), 4);
            Check.indexes(x, "to", 0, 2, i -> x.match(0, i, 0));
        });
        Sentences.promise(25, "mark: a mark of the old tree", () -> {
            Shop x = grown();
            Check.is("the first", x.match(1, 0, 2), 0);
            Check.is("the last", x.match(1, 0, 3), 1);
            Check.indexes(x, "mark", 0, 1, i -> x.match(0, 1, i));
            Check.indexes(x, "mark", 2, 3, i -> x.match(1, 0, i));
        });
        Sentences.promise(25, "Returns the mark of the new tree; NONE if it is matched with none.", () -> {
            Shop x = new Shop();
            int one = Check.grow(x, "0.0(1.1 2.2)");
            int two = Check.grow(x, "0.0(2.2)");
            Check.asked(x, "matched", 4, () -> x.match(one, two, 2));
            Check.asked(x, "with none", NONE, () -> x.match(one, two, 1));
            Check.is("mark 0 is one", x.match(two, one, 3), 0);
        });
        Sentences.promise(25, "Throws IndexOutOfBoundsException if there are no such trees, or the old one does not have the mark",
                () -> {
                    Shop x = new Shop();
                    Check.index(x, "none at all", () -> x.match(0, 0, 0));
                    Check.grow(x, "0.0(1.1)");
                    Check.grow(x, "1.0(1.1)");
                    Check.index(x, "no old tree", () -> x.match(2, 0, 0));
                    Check.index(x, "no new tree", () -> x.match(0, 2, 0));
                    Check.index(x, "neither", () -> x.match(-1, -1, 0));
                    Check.index(x, "a mark of the new one", () -> x.match(0, 0, 2));
                    Check.index(x, "a mark of the new one, unlike roots", () -> x.match(0, 1, 2));
                    Check.index(x, "a mark that is not made yet", () -> x.match(0, 0, 4));
                    Check.index(x, "a mark that is not made yet, unlike roots", () -> x.match(0, 1, -1));
                });
        Sentences.promise(25, "Throws IllegalStateException if the kinds or identities of the roots are unlike", () -> {
            Shop x = unlike();
            Check.state(x, "kinds", () -> x.match(0, 1, 0));
            Check.state(x, "identities", () -> x.match(0, 2, 0));
            Check.state(x, "the other way", () -> x.match(2, 0, 2));
        });
    }

    /** Three trees with the marks 0 and 1, 2 and 3, and 4. */
    private static Shop grown() {
        Shop x = new Shop();
        Check.grow(x, "0.0(1.1)");
        Check.grow(x, "0.0(1.1)");
        Check.grow(x, "0.0");
        return x;
    }

    private static Shop unlike() {
        Shop x = new Shop();
        Check.grow(x, "0.0");
        Check.grow(x, "1.0");
        Check.grow(x, "0.0#0");
        return x;
    }

    private static void likeness() {
        Sentences.promise(26, "Returns the likeness of two nodes by what is matched in the end.", () -> {
            Shop x = new Shop();
            int one = Check.grow(x, "0.0(1.0(1.5(2.1)) 3.3(2.4))");
            int two = Check.grow(x, "0.0(3.0(1.9(1.8(2.1))) 2.9)");
            // 1.5 comes to be matched with 1.8 from below, after 2.1 was, and counts then.
            Check.asked(x, "with what came last", 1f, () -> x.likeness(one, two, 1, 8));
            Check.asked(x, "of those that are not matched", 2f / 3f, () -> x.likeness(one, two, 1, 9));
            Check.asked(x, "of another kind", 4f / 5f, () -> x.likeness(one, two, 1, 7));
            Check.asked(x, "the roots", 2f * 4 / 10, () -> x.likeness(one, two, 0, 6));
        });
        Sentences.promise(26, "from: the number of the old tree", () -> {
            Shop x = grown();
            Check.is("the second", x.likeness(1, 0, 2, 0), 1f);
            Check.indexes(x, "from", 0, 2, i -> x.likeness(i, 0, 0, 0));
        });
        Sentences.promise(26, "to: that of the new tree", () -> {
            Shop x = grown();
            Check.is("the second", x.likeness(0, 1, 0, 2), 1f);
            Check.indexes(x, "to", 0, 2, i -> x.likeness(0, i, 0, 0));
        });
        Sentences.promise(26, "mark: a mark of the old tree", () -> {
            Shop x = grown();
            Check.is("the last", x.likeness(1, 0, 3, 1), 0f);
            Check.indexes(x, "mark", 2, 3, i -> x.likeness(1, 0, i, 0));
            Check.indexes(x, "mark", 0, 1, i -> x.likeness(0, 1, i, 2));
        });
        Sentences.promise(26, "other: a mark of the new tree", () -> {
            Shop x = grown();
            Check.is("the last", x.likeness(0, 1, 1, 3), 0f);
            Check.indexes(x, "other", 0, 1, i -> x.likeness(1, 0, 2, i));
            Check.indexes(x, "other", 2, 3, i -> x.likeness(0, 1, 0, i));
        });
        Sentences.promise(26, "Returns the likeness.", () -> {
            Shop x = new Shop();
            int one = Check.grow(x, "0.0(1.1(2.2))");
            Check.asked(x, "with itself", 1f, () -> x.likeness(one, one, 0, 0));
            Check.asked(x, "of a part", 2f / 3f, () -> x.likeness(one, one, 0, 1));
            Check.asked(x, "of leaves", 0f, () -> x.likeness(one, one, 2, 2));
            Shop y = new Shop();
            int wide = DraftSentences.wide(y, 300);
            y.copy(wide);
            y.drop(y.markAt(wide, 299));
            int fewer = y.seal();
            Check.is("of 300 nodes", y.likeness(wide, wide, 0, 0), 1f);
            Check.is("of 300 and 299 nodes", y.likeness(wide, fewer, 0, 0), (float) (2 * 298) / (float) (299 + 298));
            Check.is("of 299 and 300 nodes", y.likeness(fewer, wide, 0, 0), (float) (2 * 298) / (float) (299 + 298));
        });
        Sentences.promise(26, "Throws IndexOutOfBoundsException if there are no such trees, or they do not have the marks", () -> {
            Shop x = new Shop();
            Check.index(x, "none at all", () -> x.likeness(0, 0, 0, 0));
            Check.grow(x, "0.0(1.1)");
            Check.grow(x, "1.0(1.1)");
            Check.index(x, "no old tree", () -> x.likeness(2, 0, 0, 0));
            Check.index(x, "no new tree", () -> x.likeness(0, 2, 0, 0));
            Check.index(x, "the old one has not the mark", () -> x.likeness(0, 1, 2, 2));
            Check.index(x, "the new one has not the other", () -> x.likeness(0, 1, 0, 0));
            Check.index(x, "a mark that is not made yet", () -> x.likeness(0, 0, 4, 0));
            Check.index(x, "another that is not made yet", () -> x.likeness(0, 0, 0, 4));
            Check.index(x, "mark -1", () -> x.likeness(0, 0, -1, 0));
            Check.index(x, "other -1", () -> x.likeness(0, 0, 0, -1));
        });
        Sentences.promise(26, "Throws IllegalStateException if the kinds or identities of the roots are unlike", () -> {
            Shop x = unlike();
            Check.state(x, "kinds", () -> x.likeness(0, 1, 0, 1));
            Check.state(x, "identities", () -> x.likeness(0, 2, 0, 2));
            Check.state(x, "the other way", () -> x.likeness(2, 0, 2, 0));
        });
    }
}
