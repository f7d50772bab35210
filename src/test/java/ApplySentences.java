/** What the document says of applying scripts, and of turning them back: a test for each sentence. */
final class ApplySentences {
    private static final int NONE = TwigPatch.NONE;

    private ApplySentences() {
    }

    static void check() {
        stepByStep();
        needs();
        dropped();
        places();
        fuzzOfNeighbours();
        fuzzOfValues();
        fuzzOfAll();
        turned();
        applies();
        fuzz();
    }

    private static void applying(String words, Runnable test) {
        Sentences.holds("Applying", words, test);
    }

    private static void applied(Shop x, int script, int tree, String due, int fuzz) {
        String to = "applied to " + Check.told(x, tree);
        int there = x.apply(script, tree);
        Check.tree(to, x, there, due);
        Check.is("the fuzz, " + to, x.fuzz(), fuzz);
    }

    /** Tree 0 with three leaves; script 0 puts the mark 4 between the first and the second. */
    private static Shop putting(int kind) {
        Shop x = new Shop();
        int one = Check.grow(x, kind + ".0(1.1 1.2 1.3)");
        x.node(0, 1, 2, 9, NONE);
        x.find(one, x.seal());
        x.copy(one);
        return x;
    }

    // ---- the terms

    private static void stepByStep() {
        applying("A script is applied to a tree step by step, on a copy", () -> {
            Shop x = new Shop();
            int one = Check.grow(x, "0.0(1.1(1.2) 1.3)");
            x.node(1, 0, 2, 5, NONE);
            x.node(4, 0, 2, 6, NONE);
            x.move(2, 5, 0);
            x.move(3, 2, 0);
            int two = x.seal();
            int script = x.find(one, two);
            Check.is("script", Check.script(x, script), "put 4 under 1, put 5 under 4, move 2 under 5, move 3 under 2");
            x.begin(0, 0, NONE);
            applied(x, script, one, "0:0(1:1(4:5(5:6(2:2(3:3)))))", 0);
            Check.tree("the tree stays", x, one, "0:0(1:1(2:2) 3:3)");
            Check.tree("the draft stays", x, x.seal(), "6:0");
            // Without 1, what comes first is dropped, and so is what needs it.
            x.copy(one);
            x.move(2, 0, 0);
            x.drop(1);
            applied(x, script, x.seal(), "0:0(2:2(3:3))", 30);
        });
    }

    private static void needs() {
        applying("each step needs its mark, but a PUT needs that there is none such, and the parent to which it goes,"
                + " which must not be below it, nor it", () -> {
            Shop x = new Shop();
            int one = Check.grow(x, "0.0(1.1 1.2 1.3 1.4)");
            x.set(1, 9);
            int update = x.find(one, x.seal());
            x.copy(one);
            x.move(1, 2, 0);
            int move = x.find(one, x.seal());
            x.copy(one);
            x.drop(1);
            int without = x.seal();
            int remove = x.find(one, without);
            x.copy(one);
            x.node(2, 0, 1, 5, NONE);
            int with = x.seal();
            int put = x.find(one, with);
            x.copy(one);
            x.drop(2);
            int childless = x.seal();
            applied(x, update, without, "0:0(2:2 3:3 4:4)", 10);
            applied(x, move, without, "0:0(2:2 3:3 4:4)", 10);
            applied(x, remove, without, "0:0(2:2 3:3 4:4)", 10);
            applied(x, put, with, "0:0(1:1 2:2(5:5) 3:3 4:4)", 10);
            x.copy(with);
            x.set(5, 6);
            x.move(5, 0, 0);
            applied(x, put, x.seal(), "0:0(5:6 1:1 2:2 3:3 4:4)", 10);
            applied(x, put, childless, "0:0(1:1 3:3 4:4)", 10);
            applied(x, move, childless, "0:0(1:1 3:3 4:4)", 10);
            x.copy(one);
            x.move(2, 1, 0);
            applied(x, move, x.seal(), "0:0(1:1(2:2) 3:3 4:4)", 10);
            x.move(2, 3, 0);
            x.move(3, 1, 0);
            applied(x, move, x.seal(), "0:0(1:1(3:3(2:2)) 4:4)", 10);
            x.move(2, 0, 0);
            applied(x, move, x.seal(), "0:0(2:2(1:1(3:3)) 4:4)", 0);
        });
        applying("otherwise the step is dropped.", () -> {
            Shop x = new Shop();
            int one = Check.grow(x, "0.0(1.1 1.2)");
            x.set(1, 9);
            x.set(2, 9);
            int script = x.find(one, x.seal());
            x.copy(one);
            x.drop(1);
            // The steps behind the one that is dropped are taken.
            applied(x, script, x.seal(), "0:0(2:9)", 10);
        });
    }

    private static void dropped() {
        applying("A REMOVE needs that the node has no children, and is not the root", () -> {
            Shop x = new Shop();
            int one = Check.grow(x, "0.0(1.1 1.2(1.3))");
            x.drop(2);
            int script = x.find(one, x.seal());
            Check.is("script", Check.script(x, script), "remove 3, remove 2");
            applied(x, script, one, "0:0(1:1)", 0);
            x.copy(one);
            x.move(1, 2, 0);
            applied(x, script, x.seal(), "0:0(2:2(1:1))", 10);
            x.copy(one);
            x.move(1, 3, 0);
            applied(x, script, x.seal(), "0:0(2:2(3:3(1:1)))", 20);
            x.copy(one);
            x.move(3, 1, 0);
            x.set(2, 9);
            applied(x, script, x.seal(), "0:0(1:1)", 0);
        });
        applying("and is not the root; otherwise it is dropped.", () -> {
            // No step is on a mark that is a root's: in other trees with another root such a script drops all.
            Shop x = new Shop();
            int one = Check.grow(x, "0.0(1.1)");
            x.drop(1);
            int script = x.find(one, x.seal());
            applied(x, script, Check.grow(x, "0.0(1.1)"), "2:0(3:1)", 10);
            applied(x, script, Check.grow(x, "0.0"), "4:0", 10);
        });
    }

    private static void places() {
        applying("What goes under a parent of the kinds 0 to 3 comes right behind the mark that is told as being ahead,"
                + " if one is told, and it is a child there", () -> {
            for (int kind = 0; kind <= 3; kind++) {
                Shop x = putting(kind);
                applied(x, 0, 0, "0:0(1:1 4:9 2:2 3:3)", 0);
                x.move(1, 0, 2);
                applied(x, 0, x.seal(), "0:0(2:2 3:3 1:1 4:9)", 1);
                x.move(1, 0, 1);
                applied(x, 0, x.seal(), "0:0(2:2 1:1 4:9 3:3)", 1);
                x.drop(2);
                applied(x, 0, x.seal(), "0:0(1:1 4:9 3:3)", 1);
            }
        });
        applying("otherwise right ahead of the one that is told as being behind, if one is, and it is a child there", () -> {
            for (int kind = 0; kind <= 3; kind++) {
                Shop x = putting(kind);
                x.drop(1);
                applied(x, 0, x.seal(), "0:0(4:9 2:2 3:3)", 1);
                x.move(3, 0, 0);
                applied(x, 0, x.seal(), "0:0(3:3 4:9 2:2)", 1);
                // The one ahead is there, but it is not a child of this parent.
                x.copy(0);
                x.move(1, 3, 0);
                applied(x, 0, x.seal(), "0:0(4:9 2:2 3:3(1:1))", 1);
                // None is told ahead.
                Shop y = new Shop();
                int one = Check.grow(y, kind + ".0(1.1 1.2)");
                y.node(0, 0, 2, 9, NONE);
                int script = y.find(one, y.seal());
                y.copy(one);
                y.move(2, 0, 0);
                applied(y, script, y.seal(), "0:0(2:2 3:9 1:1)", 0);
            }
        });
        applying("otherwise at the end.", () -> {
            for (int kind = 0; kind <= 3; kind++) {
                Shop x = putting(kind);
                x.drop(1);
                x.move(2, 3, 0);
                applied(x, 0, x.seal(), "0:0(3:3(2:2) 4:9)", 2);
                x.drop(3);
                applied(x, 0, x.seal(), "0:0(4:9)", 2);
                // Neither is told.
                Shop y = new Shop();
                int one = Check.grow(y, "0.0(" + kind + ".1)");
                y.node(1, 0, 2, 9, NONE);
                int script = y.find(one, y.seal());
                y.copy(one);
                y.node(1, 0, 1, 3, NONE);
                y.node(1, 1, 1, 4, NONE);
                applied(y, script, y.seal(), "0:0(1:1(3:3 4:4 2:9))", 0);
            }
        });
    }

    private static void fuzzOfNeighbours() {
        applying("The fuzz of a step is, for a parent of these kinds, 1 for each of these two marks that is told,"
                + " and is not what comes right ahead of it, or right behind it, when it stands there", () -> {
            for (int kind = 0; kind <= 5; kind++) {
                boolean counts = kind < 4;
                Shop x = putting(kind);
                x.drop(3);
                applied(x, 0, x.seal(), counts ? "0:0(1:1 4:9 2:2)" : "0:0(1:1 2:2 4:9)", 0);
                x.drop(2);
                applied(x, 0, x.seal(), "0:0(1:1 4:9)", counts ? 1 : 0);
                x.drop(1);
                applied(x, 0, x.seal(), "0:0(4:9)", counts ? 2 : 0);
                x.copy(0);
                x.drop(1);
                applied(x, 0, x.seal(), counts ? "0:0(4:9 2:2 3:3)" : "0:0(2:2 3:3 4:9)", counts ? 1 : 0);
                movesWithFuzz(kind);
                noneIsTold(kind);
            }
        });
    }

    /** What is told as none is no fuzz, whatever stands there. */
    private static void noneIsTold(int kind) {
        boolean counts = kind < 4;
        Shop x = new Shop();
        int one = Check.grow(x, kind + ".0(1.1 1.2)");
        x.node(0, 2, 2, 9, NONE);
        int last = x.find(one, x.seal());
        x.copy(one);
        x.node(0, 0, 2, 8, NONE);
        int first = x.find(one, x.seal());
        x.copy(one);
        x.node(0, 2, 2, 7, NONE);
        int more = x.seal();
        applied(x, last, more, counts ? "0:0(1:1 2:2 3:9 5:7)" : "0:0(1:1 2:2 3:9 5:7)", 0);
        x.move(5, 0, 0);
        more = x.seal();
        applied(x, first, more, counts ? "0:0(5:7 4:8 1:1 2:2)" : "0:0(1:1 2:2 4:8 5:7)", 0);
    }

    /** A MOVE to between 2 and 3; that which moves is no neighbour of its own, nor counts where it was. */
    private static void movesWithFuzz(int kind) {
        boolean counts = kind < 4;
        Shop x = new Shop();
        int one = Check.grow(x, kind + ".0(1.1(1.2) 1.3 1.4)");
        x.move(2, 0, 2);
        int script = x.find(one, x.seal());
        applied(x, script, one, counts ? "0:0(1:1 3:3 2:2 4:4)" : "0:0(1:1 2:2 3:3 4:4)", 0);
        x.copy(one);
        x.move(2, 0, 0);
        applied(x, script, x.seal(), counts ? "0:0(1:1 3:3 2:2 4:4)" : "0:0(1:1 2:2 3:3 4:4)", 0);
        x.drop(4);
        applied(x, script, x.seal(), counts ? "0:0(1:1 3:3 2:2)" : "0:0(1:1 2:2 3:3)", counts ? 1 : 0);
        x.drop(3);
        applied(x, script, x.seal(), counts ? "0:0(1:1 2:2)" : "0:0(1:1 2:2)", counts ? 2 : 0);
    }

    private static void fuzzOfValues() {
        applying("and for an UPDATE 1, if the value is not the one from which it tells to go.", () -> {
            for (int kind = 0; kind <= 5; kind++) {
                Shop x = new Shop();
                int one = Check.grow(x, kind + ".0(1.50)");
                x.set(1, 60);
                int script = x.find(one, x.seal());
                for (int value : new int[] {0, 49, 50, 51, 60, 99}) {
                    x.set(1, value);
                    applied(x, script, x.seal(), "0:0(1:60)", value == 50 ? 0 : 1);
                }
                int back = x.turn(script);
                for (int value : new int[] {59, 60, 61, 50}) {
                    x.set(1, value);
                    applied(x, back, x.seal(), "0:0(1:50)", value == 60 ? 0 : 1);
                }
            }
        });
    }

    private static void fuzzOfAll() {
        applying("Each step that is dropped counts 10.", () -> {
            Shop x = new Shop();
            int one = Check.grow(x, "0.0(1.1 1.2 4.3)");
            x.set(1, 9);
            x.move(1, 3, 0);
            x.drop(2);
            x.node(3, 0, 1, 4, NONE);
            int script = x.find(one, x.seal());
            Check.is("script", Check.script(x, script), "update 1, move 1 under 3, put 4 under 3 behind 1, remove 2");
            int other = Check.grow(x, "0.0");
            applied(x, script, other, "5:0", 40);
            applied(x, x.turn(script), other, "5:0", 40);
            x.copy(one);
            x.drop(1);
            applied(x, script, x.seal(), "0:0(3:3(4:4))", 20);
        });
        applying("The fuzz of applying is that of all steps.", () -> {
            Shop x = new Shop();
            int one = Check.grow(x, "0.0(1.1 1.2 1.3)");
            x.set(1, 9);
            x.node(0, 1, 2, 5, NONE);
            x.drop(3);
            int script = x.find(one, x.seal());
            Check.is("script", Check.script(x, script), "update 1, put 4 under 0 behind 1, remove 3");
            applied(x, script, one, "0:0(1:9 4:5 2:2)", 0);
            x.copy(one);
            x.set(1, 2);
            x.drop(2);
            applied(x, script, x.seal(), "0:0(1:9 4:5)", 2);
            x.drop(3);
            applied(x, script, x.seal(), "0:0(1:9 4:5)", 12);
            x.drop(1);
            applied(x, script, x.seal(), "0:0(4:5)", 22);
            Shop y = new Shop();
            int wide = DraftSentences.wide(y, 101);
            int put = y.find(0, wide);
            int other = Check.grow(y, "0.0");
            y.apply(put, other);
            Check.is("a hundred steps dropped", y.fuzz(), 1000);
            y.apply(put, 0);
            Check.is("a hundred steps taken", y.fuzz(), 0);
        });
    }

    private static void turned() {
        applying("To turn a script back is to make one that has the steps the other way round, the last one first:"
                + " an UPDATE back, a PUT for a REMOVE, a REMOVE for a PUT, a MOVE back.", () -> {
            Shop x = new Shop();
            int one = Check.grow(x, "0.0(1.1 1.2 1.3(2.4) 1.5)");
            x.set(2, 9);
            x.move(1, 0, 3);
            x.drop(4);
            x.node(2, 0, 2, 5, NONE);
            int two = x.seal();
            int script = x.find(one, two);
            Check.is("found", Check.script(x, script), "update 2, put 6 under 2, move 1 under 0 behind 5, remove 4");
            int back = x.turn(script);
            Check.is("turned", Check.script(x, back), "put 4 under 3, move 1 under 0, remove 6, update 2");
            applied(x, back, two, "0:0(1:1 2:2 3:3(4:4) 5:5)", 0);
            int again = x.turn(back);
            Check.is("turned twice", Check.script(x, again), Check.script(x, script));
            applied(x, again, one, Check.told(x, two), 0);
            int none = x.find(one, one);
            Check.is("without steps", x.steps(x.turn(none)), 0);
        });
    }

    // ---- promises

    private static void applies() {
        Sentences.promise(11, "Applies a script.", () -> {
            Shop x = putting(0);
            applied(x, 0, 0, "0:0(1:1 4:9 2:2 3:3)", 0);
            Check.is("to its own tree", x.areSame(2, 1), true);
            int none = x.find(0, 0);
            applied(x, none, 1, "0:0(1:1 4:9 2:2 3:3)", 0);
        });
        Sentences.promise(11, "script: its number", () -> {
            Shop x = putting(0);
            x.find(0, 0);
            Check.indexes(x, "script", 0, 1, i -> x.apply(i, 0));
            applied(x, 1, 0, "0:0(1:1 2:2 3:3)", 0);
        });
        Sentences.promise(11, "tree: the tree to which it is applied", () -> {
            Shop x = putting(0);
            Check.indexes(x, "tree", 0, 1, i -> x.apply(0, i));
            applied(x, 0, 1, "0:0(1:1 4:9 2:2 3:3)", 10);
            Shop y = new Shop();
            int wide = DraftSentences.wide(y, 300);
            y.copy(wide);
            y.set(299, 7);
            int script = y.find(wide, y.seal());
            Check.is("300 nodes", y.size(y.apply(script, wide)), 300);
        });
        Sentences.promise(11, "Returns the number of the tree that comes of it.", () -> {
            Shop x = putting(0);
            for (int tree = 2; tree < 40; tree++) {
                Check.is("the number", x.apply(0, tree == 2 ? 0 : 2), tree);
            }
        });
        Sentences.promise(11, "Throws IndexOutOfBoundsException if there is no such script or tree", () -> {
            Shop x = new Shop();
            Check.index(x, "none at all", () -> x.apply(0, 0));
            Check.grow(x, "0.0");
            Check.index(x, "no script", () -> x.apply(0, 0));
            x.find(0, 0);
            Check.index(x, "script 1", () -> x.apply(1, 0));
            Check.index(x, "tree 1", () -> x.apply(0, 1));
            Check.index(x, "neither", () -> x.apply(-1, -1));
            for (int tree = 1; tree < 40; tree++) {
                x.seal();
            }
            Check.index(x, "the index first", () -> x.apply(1, 0));
            Check.index(x, "the index first", () -> x.apply(0, 40));
        });
        Sentences.promise(11, "Throws IllegalStateException if there are 40 trees", () -> {
            Shop x = putting(0);
            for (int tree = 2; tree < 39; tree++) {
                x.seal();
            }
            Check.is("the 40th", x.apply(0, 1), 39);
            Check.is("its fuzz", x.fuzz(), 10);
            Check.state(x, "one more", () -> x.apply(0, 0));
            Check.is("the fuzz stays", x.fuzz(), 10);
        });
    }

    private static void fuzz() {
        Sentences.promise(12, "Returns the fuzz of the last applying; 0 if there was none.", () -> {
            Shop x = new Shop();
            Check.asked(x, "none yet", 0, x::fuzz);
            int one = Check.grow(x, "0.0(1.1)");
            x.set(1, 2);
            int two = x.seal();
            int script = x.find(one, two);
            Check.asked(x, "none yet", 0, x::fuzz);
            x.apply(script, two);
            Check.asked(x, "of the first", 1, x::fuzz);
            Check.index(x, "a refused one does not count", () -> x.apply(script, 3));
            x.find(two, one);
            x.turn(script);
            x.merge(one, two, one);
            x.begin(0, 0, NONE);
            x.seal();
            Check.asked(x, "of the first still", 1, x::fuzz);
            x.apply(script, 4);
            Check.asked(x, "of the second", 10, x::fuzz);
            x.apply(script, one);
            Check.asked(x, "of the third", 0, x::fuzz);
        });
    }
}
