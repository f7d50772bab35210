/** Promises 1 to 8: a new object, and drafts. */
public final class DraftTest {
    private static final int NONE = TwigPatch.NONE;

    public static void main(String[] args) {
        newObject();
        begins();
        copies();
        adds();
        addsInOrder();
        addsWrongly();
        sets();
        moves();
        movesWrongly();
        drops();
        seals();
        Check.end();
    }

    private static void newObject() {
        Shop x = new Shop();
        Check.is("trees", x.trees(), 0);
        Check.is("versions", x.versions(), 0);
        Check.is("conflicts", x.conflicts(), 0);
        Check.is("fuzz", x.fuzz(), 0);
        Check.state(x, "seal without a draft", x::seal);
        Check.index(x, "copy of none", () -> x.copy(0));
        Check.index(x, "node without a draft", () -> x.node(0, 0, 0, 0, NONE));
        Check.index(x, "set without a draft", () -> x.set(0, 0));
        Check.index(x, "move without a draft", () -> x.move(0, 0, 0));
        Check.index(x, "drop without a draft", () -> x.drop(0));
        Check.index(x, "size", () -> x.size(0));
        Check.index(x, "steps", () -> x.steps(0));
        Check.index(x, "treeOf", () -> x.treeOf(0));
        Check.is("another object starts anew", new TwigPatch().begin(0, 0, NONE), 0);
    }

    private static void begins() {
        Shop x = new Shop();
        Check.argument(x, "kind -1", () -> x.begin(-1, 0, 0));
        Check.argument(x, "kind 6", () -> x.begin(6, 0, 0));
        Check.argument(x, "value -1", () -> x.begin(0, -1, 0));
        Check.argument(x, "value 100", () -> x.begin(0, 100, 0));
        Check.argument(x, "identity -2", () -> x.begin(0, 0, -2));
        Check.argument(x, "identity 100", () -> x.begin(0, 0, 100));
        Check.state(x, "a wrong begin leaves no draft", x::seal);
        Check.is("begin", x.begin(0, 0, NONE), 0);
        Check.is("begin at the upper ends", x.begin(5, 99, 99), 1);
        Check.index(x, "the draft before is gone", () -> x.set(0, 1));
        Check.argument(x, "a wrong begin leaves the draft", () -> x.begin(6, 0, 0));
        Check.is("seal", x.seal(), 0);
        Check.tree("the root alone", x, 0, "1:99");
        Check.is("kind 0 and identity 0", x.begin(0, 0, 0), 2);
    }

    private static void copies() {
        Shop x = new Shop();
        int tree = Check.grow(x, "0.1(1.2(2.3) 4.5(1.6 1.7))");
        Check.draft(x, "0.9(1.9)");
        Check.index(x, "copy(-1)", () -> x.copy(-1));
        Check.index(x, "copy(1)", () -> x.copy(1));
        Check.is("a wrong copy leaves the draft", x.set(6, 3), 9);
        Check.is("copy", x.copy(tree), 6);
        Check.is("the same", x.areSame(x.seal(), tree), true);
        x.set(0, 50);
        x.drop(1);
        Check.tree("the tree stays as the draft changes", x, tree, "0:1(1:2(2:3) 3:5(4:6 5:7))");
        Check.index(x, "the draft before is gone", () -> x.set(6, 3));
    }

    private static void adds() {
        Shop x = new Shop();
        x.begin(0, 0, NONE);
        Check.is("the first", x.node(0, 0, 1, 1, NONE), 1);
        Check.is("behind", x.node(0, 1, 1, 2, NONE), 2);
        Check.is("ahead", x.node(0, 0, 1, 3, NONE), 3);
        Check.is("between", x.node(0, 1, 1, 4, 99), 4);
        Check.is("below", x.node(4, 0, 1, 5, 0), 5);
        Check.is("seal", x.seal(), 0);
        Check.tree("as told", x, 0, "0:0(3:3 4:4(5:5) 1:1 2:2)");
    }

    private static void addsInOrder() {
        for (int kind = 4; kind <= 5; kind++) {
            Shop x = new Shop();
            x.begin(kind, 0, NONE);
            x.node(0, 0, 3, 1, NONE);
            x.node(0, 0, 3, 2, NONE);
            x.node(0, -7, 3, 3, NONE);
            x.node(0, 1000, 3, 4, NONE);
            x.node(2, 0, 3, 5, NONE);
            x.node(2, 0, 3, 6, NONE);
            x.seal();
            Check.tree("by rising marks", x, 0, "0:0(1:1 2:2(6:6 5:5) 3:3 4:4)");
        }
    }

    private static void addsWrongly() {
        Shop x = new Shop();
        Check.grow(x, "0.0(4.1)");
        Check.draft(x, "0.0(3.1)");
        Check.index(x, "a mark of another tree", () -> x.node(0, 0, 0, 0, NONE));
        Check.index(x, "no such mark", () -> x.node(4, 0, 0, 0, NONE));
        Check.index(x, "mark -1", () -> x.node(-1, 0, 0, 0, NONE));
        Check.index(x, "mark 300", () -> x.node(300, 0, 0, 0, NONE));
        Check.index(x, "place -1", () -> x.node(2, -1, 0, 0, NONE));
        Check.index(x, "place 2", () -> x.node(2, 2, 0, 0, NONE));
        Check.index(x, "the index first", () -> x.node(2, 2, 6, 0, NONE));
        Check.argument(x, "kind -1", () -> x.node(2, 0, -1, 0, NONE));
        Check.argument(x, "kind 6", () -> x.node(2, 0, 6, 0, NONE));
        Check.argument(x, "value -1", () -> x.node(2, 0, 0, -1, NONE));
        Check.argument(x, "value 100", () -> x.node(2, 0, 0, 100, NONE));
        Check.argument(x, "identity -2", () -> x.node(2, 0, 0, 0, -2));
        Check.argument(x, "identity 100", () -> x.node(2, 0, 0, 0, 100));
        Check.is("no mark was taken", x.node(2, 1, 0, 0, NONE), 4);
        x.seal();
        Check.tree("the draft", x, 1, "2:0(3:1 4:0)");
    }

    private static void sets() {
        Shop x = new Shop();
        Check.draft(x, "0.5(1.6)");
        Check.is("set", x.set(1, 99), 6);
        Check.is("set once more", x.set(1, 0), 99);
        Check.is("the root", x.set(0, 7), 5);
        Check.index(x, "no such mark", () -> x.set(2, 7));
        Check.index(x, "mark -1", () -> x.set(-1, 7));
        Check.index(x, "the index first", () -> x.set(2, 100));
        Check.argument(x, "value -1", () -> x.set(1, -1));
        Check.argument(x, "value 100", () -> x.set(1, 100));
        x.seal();
        Check.tree("the draft", x, 0, "0:7(1:0)");
    }

    private static void moves() {
        Shop x = new Shop();
        int tree = Check.grow(x, "0.0(1.1(2.2) 1.3 1.4 4.5(1.6))");
        x.copy(tree);
        Check.is("to the end, itself not counted", x.move(1, 0, 3), 0);
        Check.tree("at the end", x, x.seal(), "0:0(3:3 4:4 5:5(6:6) 1:1(2:2))");
        Check.is("to the start", x.move(1, 0, 0), 0);
        Check.is("all is as it was", x.areSame(x.seal(), tree), true);
        Check.is("to where it stands", x.move(3, 0, 1), 0);
        Check.is("all is as it was", x.areSame(x.seal(), tree), true);
        Check.is("below another one", x.move(4, 1, 1), 0);
        Check.tree("below another one", x, x.seal(), "0:0(1:1(2:2 4:4) 3:3 5:5(6:6))");
        Check.is("where order does not matter", x.move(1, 5, -3), 0);
        Check.tree("by rising marks", x, x.seal(), "0:0(3:3 5:5(1:1(2:2 4:4) 6:6))");
        Check.is("any place does", x.move(6, 5, 77), 5);
        Check.is("from below", x.move(2, 0, 0), 1);
        Check.tree("the last", x, x.seal(), "0:0(2:2 3:3 5:5(1:1(4:4) 6:6))");
        Check.tree("the tree stays", x, tree, "0:0(1:1(2:2) 3:3 4:4 5:5(6:6))");
    }

    private static void movesWrongly() {
        Shop x = new Shop();
        Check.draft(x, "0.0(1.1(2.2) 1.3)");
        Check.index(x, "no such mark", () -> x.move(4, 0, 0));
        Check.index(x, "mark -1", () -> x.move(-1, 0, 0));
        Check.index(x, "no such parent", () -> x.move(1, 4, 0));
        Check.index(x, "parent -1", () -> x.move(1, -1, 0));
        Check.index(x, "place -1", () -> x.move(1, 0, -1));
        Check.index(x, "the node itself is not counted", () -> x.move(1, 0, 2));
        Check.index(x, "place 3 for a new child", () -> x.move(2, 0, 3));
        Check.index(x, "the index first, by the parent", () -> x.move(0, 9, 0));
        Check.index(x, "the index first, by the place", () -> x.move(1, 2, 1));
        Check.state(x, "the root", () -> x.move(0, 1, 0));
        Check.state(x, "the root under itself", () -> x.move(0, 0, 0));
        Check.state(x, "under itself", () -> x.move(1, 1, 0));
        Check.state(x, "below itself", () -> x.move(1, 2, 0));
        x.seal();
        Check.tree("the draft", x, 0, "0:0(1:1(2:2) 3:3)");
        Check.draft(x, "0.0(1.1(2.2))");
        Check.state(x, "the root below all there is", () -> x.move(4, 6, 0));
    }

    private static void drops() {
        Shop x = new Shop();
        Check.draft(x, "0.0(1.1(2.2(1.3) 2.4) 4.5(1.6 1.7))");
        Check.index(x, "no such mark", () -> x.drop(8));
        Check.index(x, "mark -1", () -> x.drop(-1));
        Check.state(x, "the root", () -> x.drop(0));
        Check.is("a leaf", x.drop(6), 1);
        Check.is("with all below", x.drop(1), 4);
        Check.index(x, "a node is gone", () -> x.drop(1));
        Check.index(x, "what was below is gone", () -> x.set(3, 0));
        x.seal();
        Check.tree("what is left", x, 0, "0:0(5:5(7:7))");
        Check.is("marks are not given twice", x.node(0, 0, 0, 0, NONE), 8);
        Check.is("drop what is new", x.drop(8), 1);
    }

    private static void seals() {
        Shop x = new Shop();
        Check.draft(x, "0.0(1.1)");
        Check.is("the first tree", x.seal(), 0);
        Check.is("the draft stays", x.set(1, 2), 1);
        Check.is("the second tree", x.seal(), 1);
        Check.tree("the first", x, 0, "0:0(1:1)");
        Check.tree("the second", x, 1, "0:0(1:2)");
        for (int i = 2; i < 40; i++) {
            Check.is("seal", x.seal(), i);
        }
        Check.state(x, "there are 40 trees", x::seal);
        Check.is("trees", x.trees(), 40);
        Check.is("the draft stays", x.set(1, 3), 2);
    }
}
