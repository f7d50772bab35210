/** Promises 11 and 12: scripts applied to trees that have changed a little, and the fuzz. */
public final class ApplyTest {
    private static final int NONE = TwigPatch.NONE;

    public static void main(String[] args) {
        updates();
        puts();
        putsNowhere();
        moves();
        movesDropped();
        removes();
        withoutOrder();
        turnedRemoves();
        tellsFuzz();
        wrongly();
        Check.end();
    }

    private static void applied(Shop x, int script, int tree, String due, int fuzz) {
        int before = x.trees();
        Check.is("the number", x.apply(script, tree), before);
        Check.tree("the tree", x, before, due);
        Check.is("the fuzz for " + due, x.fuzz(), fuzz);
    }

    private static void updates() {
        Shop x = new Shop();
        int one = Check.grow(x, "0.0(1.1 1.2)");
        x.set(1, 5);
        x.set(2, 6);
        int script = x.find(one, x.seal());
        applied(x, script, one, "0:0(1:5 2:6)", 0);
        applied(x, script, 1, "0:0(1:5 2:6)", 2);
        x.set(1, 7);
        x.drop(2);
        applied(x, script, x.seal(), "0:0(1:5)", 11);
        Check.tree("the tree stays", x, one, "0:0(1:1 2:2)");
        applied(x, script, Check.grow(x, "0.0"), "3:0", 20);
    }

    /** A script that puts 4 between 1 and 2, and trees in which these stand otherwise. */
    private static void puts() {
        Shop x = new Shop();
        int one = Check.grow(x, "0.0(1.1 1.2 1.3)");
        x.node(0, 1, 2, 9, NONE);
        int two = x.seal();
        int script = x.find(one, two);
        Check.is("script", Check.script(x, script), "put 4 under 0 behind 1");
        applied(x, script, one, "0:0(1:1 4:9 2:2 3:3)", 0);
        applied(x, script, two, "0:0(1:1 4:9 2:2 3:3)", 10);
        x.copy(one);
        x.move(3, 0, 1);
        applied(x, script, x.seal(), "0:0(1:1 4:9 3:3 2:2)", 1);
        x.move(1, 0, 2);
        applied(x, script, x.seal(), "0:0(3:3 2:2 1:1 4:9)", 1);
        x.drop(1);
        applied(x, script, x.seal(), "0:0(3:3 4:9 2:2)", 1);
        x.move(3, 2, 0);
        applied(x, script, x.seal(), "0:0(4:9 2:2(3:3))", 1);
        x.copy(one);
        x.move(1, 3, 0);
        applied(x, script, x.seal(), "0:0(4:9 2:2 3:3(1:1))", 1);
        x.move(2, 3, 0);
        applied(x, script, x.seal(), "0:0(3:3(2:2 1:1) 4:9)", 2);
        x.copy(one);
        x.drop(2);
        applied(x, script, x.seal(), "0:0(1:1 4:9 3:3)", 1);
        x.drop(1);
        applied(x, script, x.seal(), "0:0(3:3 4:9)", 2);
        x.drop(3);
        applied(x, script, x.seal(), "0:0(4:9)", 2);
    }

    /** What is told as none is no fuzz, whatever stands there; and without a parent the step is dropped. */
    private static void putsNowhere() {
        Shop x = new Shop();
        int one = Check.grow(x, "0.0(1.1)");
        x.node(1, 0, 2, 9, NONE);
        int script = x.find(one, x.seal());
        Check.is("script", Check.script(x, script), "put 2 under 1");
        x.copy(one);
        x.node(1, 0, 2, 8, NONE);
        x.node(1, 0, 2, 7, NONE);
        applied(x, script, x.seal(), "0:0(1:1(4:7 3:8 2:9))", 0);
        x.copy(one);
        x.drop(1);
        applied(x, script, x.seal(), "0:0", 10);
    }

    private static void moves() {
        Shop x = new Shop();
        int one = Check.grow(x, "0.0(1.1 1.2 1.3 1.4)");
        x.move(1, 0, 2);
        int script = x.find(one, x.seal());
        Check.is("script", Check.script(x, script), "move 1 under 0 behind 3");
        applied(x, script, one, "0:0(2:2 3:3 1:1 4:4)", 0);
        applied(x, script, 1, "0:0(2:2 3:3 1:1 4:4)", 0);
        x.copy(one);
        x.drop(3);
        applied(x, script, x.seal(), "0:0(2:2 1:1 4:4)", 1);
        x.move(1, 2, 0);
        applied(x, script, x.seal(), "0:0(2:2 1:1 4:4)", 1);
        x.drop(4);
        applied(x, script, x.seal(), "0:0(2:2 1:1)", 2);
        x.move(1, 0, 0);
        applied(x, script, x.seal(), "0:0(2:2 1:1)", 2);
        int back = x.turn(script);
        applied(x, back, 1, "0:0(1:1 2:2 3:3 4:4)", 0);
        x.copy(one);
        x.move(2, 0, 3);
        applied(x, back, x.seal(), "0:0(3:3 4:4 1:1 2:2)", 0);
    }

    private static void movesDropped() {
        Shop x = new Shop();
        int one = Check.grow(x, "0.0(1.1 1.2(1.3))");
        x.move(1, 3, 0);
        int script = x.find(one, x.seal());
        applied(x, script, one, "0:0(2:2(3:3(1:1)))", 0);
        x.copy(one);
        x.drop(1);
        applied(x, script, x.seal(), "0:0(2:2(3:3))", 10);
        x.copy(one);
        x.drop(3);
        applied(x, script, x.seal(), "0:0(1:1 2:2)", 10);
        x.copy(one);
        x.move(2, 1, 0);
        applied(x, script, x.seal(), "0:0(1:1(2:2(3:3)))", 10);
        x.move(3, 1, 0);
        applied(x, script, x.seal(), "0:0(1:1(3:3 2:2))", 10);
    }

    private static void removes() {
        Shop x = new Shop();
        int one = Check.grow(x, "0.0(1.1 1.2 1.3)");
        x.drop(2);
        int script = x.find(one, x.seal());
        applied(x, script, one, "0:0(1:1 3:3)", 0);
        applied(x, script, 1, "0:0(1:1 3:3)", 10);
        x.copy(one);
        x.set(2, 9);
        x.move(2, 0, 0);
        applied(x, script, x.seal(), "0:0(1:1 3:3)", 0);
        x.move(2, 1, 0);
        applied(x, script, x.seal(), "0:0(1:1 3:3)", 0);
        x.copy(one);
        x.move(3, 2, 0);
        applied(x, script, x.seal(), "0:0(1:1 2:2(3:3))", 10);
    }

    private static void withoutOrder() {
        Shop x = new Shop();
        int one = Check.grow(x, "4.0(1.1 1.2 1.3 0.4)");
        x.node(0, 0, 2, 9, NONE);
        x.move(2, 4, 0);
        int script = x.find(one, x.seal());
        Check.is("script", Check.script(x, script), "move 2 under 4, put 5 under 0 behind 4");
        x.copy(one);
        x.move(4, 3, 0);
        x.drop(1);
        applied(x, script, x.seal(), "0:0(3:3(4:4(2:2)) 5:9)", 0);
        int back = x.turn(script);
        x.copy(1);
        x.drop(1);
        applied(x, back, x.seal(), "0:0(2:2 3:3 4:4)", 0);
    }

    /** A PUT that comes of a REMOVE tells the neighbours that the removed one had. */
    private static void turnedRemoves() {
        Shop x = new Shop();
        int one = Check.grow(x, "0.0(1.1 1.2 1.3)");
        x.drop(1);
        x.drop(2);
        int two = x.seal();
        int back = x.turn(x.find(one, two));
        Check.is("turned", Check.script(x, back), "put 1 under 0, put 2 under 0 behind 1");
        applied(x, back, two, "0:0(1:1 2:2 3:3)", 0);
        x.node(0, 0, 2, 5, NONE);
        applied(x, back, x.seal(), "0:0(4:5 1:1 2:2 3:3)", 0);
        x.node(0, 2, 2, 6, NONE);
        x.drop(3);
        applied(x, back, x.seal(), "0:0(4:5 5:6 1:1 2:2)", 2);
    }

    private static void tellsFuzz() {
        Shop x = new Shop();
        int one = Check.grow(x, "0.0(1.1 1.2)");
        x.set(1, 3);
        int script = x.find(one, x.seal());
        Check.is("none yet", x.fuzz(), 0);
        x.apply(script, 1);
        Check.is("one", x.fuzz(), 1);
        Check.index(x, "a wrong one leaves it", () -> x.apply(1, 0));
        x.find(0, 1);
        x.merge(0, 0, 1);
        Check.is("one still", x.fuzz(), 1);
        x.apply(script, one);
        Check.is("none", x.fuzz(), 0);
    }

    private static void wrongly() {
        Shop x = new Shop();
        int one = Check.grow(x, "0.0(1.1)");
        x.set(1, 2);
        int script = x.find(one, x.seal());
        x.apply(script, 1);
        Check.index(x, "no script", () -> x.apply(1, 0));
        Check.index(x, "script -1", () -> x.apply(-1, 0));
        Check.index(x, "no tree", () -> x.apply(0, 3));
        Check.index(x, "tree -1", () -> x.apply(0, -1));
        for (int i = 3; i < 40; i++) {
            Check.is("apply", x.apply(0, 1), i);
        }
        Check.state(x, "there are 40 trees", () -> x.apply(0, 0));
        Check.index(x, "the index first", () -> x.apply(0, 40));
        Check.is("the fuzz stays", x.fuzz(), 1);
    }
}
