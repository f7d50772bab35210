/** Promises 9, 10 and 27 to 30: scripts that are found, turned back and read. */
public final class ScriptTest {
    private static final int NONE = TwigPatch.NONE;

    public static void main(String[] args) {
        updates();
        puts();
        moves();
        removes();
        withoutOrder();
        betweenStrangers();
        turns();
        reads();
        wrongly();
        Check.end();
    }

    /** Finds a script, compares it, and sees that it leads from one tree to the other and back. */
    private static void found(Shop x, int from, int to, String due) {
        int script = x.find(from, to);
        Check.is("script", Check.script(x, script), due);
        int there = x.apply(script, from);
        Check.is("it leads to the new tree", x.areAlike(there, to), true);
        Check.is("without fuzz", x.fuzz(), 0);
        int back = x.apply(x.turn(script), there);
        Check.is("and back", x.areSame(back, from), true);
        Check.is("without fuzz", x.fuzz(), 0);
    }

    private static void updates() {
        Shop x = new Shop();
        int one = Check.grow(x, "0.0(1.1 1.2(1.3))");
        x.copy(one);
        x.set(1, 8);
        x.set(2, 9);
        x.set(0, 7);
        int two = x.seal();
        found(x, one, two, "update 0, update 1, update 2");
        x.move(2, 0, 0);
        found(x, one, x.seal(), "update 0, update 2, update 1, move 1 under 0 behind 2");
        found(x, two, two, "");
    }

    private static void puts() {
        Shop x = new Shop();
        int one = Check.grow(x, "0.0(1.1)");
        x.copy(one);
        x.node(0, 0, 2, 5, NONE);
        x.node(2, 0, 3, 6, NONE);
        x.node(0, 2, 2, 7, NONE);
        x.node(2, 0, 3, 7, NONE);
        found(x, one, x.seal(), "put 2 under 0, put 5 under 2, put 3 under 2 behind 5, put 4 under 0 behind 1");
    }

    private static void moves() {
        Shop x = new Shop();
        int one = Check.grow(x, "0.0(1.1 1.2 1.3 1.4(2.5))");
        x.copy(one);
        x.move(4, 0, 0);
        int two = x.seal();
        found(x, one, two, "move 1 under 0 behind 4, move 2 under 0 behind 1, move 3 under 0 behind 2");
        x.copy(one);
        x.move(1, 0, 3);
        found(x, one, x.seal(), "move 1 under 0 behind 4");
        x.copy(one);
        x.move(5, 0, 0);
        x.move(4, 5, 0);
        x.move(1, 4, 0);
        found(x, one, x.seal(), "move 5 under 0, move 4 under 5, move 1 under 4");
        x.copy(one);
        x.move(3, 0, 1);
        found(x, one, x.seal(), "move 2 under 0 behind 3");
    }

    private static void removes() {
        Shop x = new Shop();
        int one = Check.grow(x, "0.0(1.1(2.2 2.3) 1.4 1.5)");
        x.copy(one);
        x.drop(1);
        x.drop(4);
        found(x, one, x.seal(), "remove 4, remove 3, remove 2, remove 1");
        x.copy(one);
        x.move(3, 0, 0);
        x.drop(1);
        found(x, one, x.seal(), "move 3 under 0, remove 2, remove 1");
    }

    private static void withoutOrder() {
        Shop x = new Shop();
        int one = Check.grow(x, "0.0(4.1(1.2 1.3 1.4) 2.5(1.6))");
        x.copy(one);
        x.move(6, 1, 0);
        x.move(3, 5, 0);
        x.node(1, 0, 2, 9, NONE);
        x.drop(2);
        // What is put or moved stands by its mark, and tells that mark ahead which is there.
        found(x, one, x.seal(), "move 6 under 1 behind 4, put 7 under 1 behind 6, move 3 under 5, remove 2");
        int two = Check.grow(x, "4.0(1.1(2.9) 1.2(2.8))");
        int three = Check.grow(x, "4.0(1.2(2.8) 1.1(2.9))");
        found(x, two, three, "");
        int four = Check.grow(x, "5.0(1.2)");
        x.copy(four);
        int mark = x.markAt(four, 0);
        x.node(mark, 0, 1, 3, NONE);
        found(x, x.seal(), four, "remove " + (mark + 2));
    }

    private static void betweenStrangers() {
        Shop x = new Shop();
        int one = Check.grow(x, "0.1(1.5#7(2.8) 1.6(2.9))");
        int two = Check.grow(x, "0.2(1.6(2.9 3.1#4) 1.5#7(2.3))");
        found(x, one, two, "update 0, update 2, put 8 under 3 behind 4, move 1 under 0 behind 3");
        found(x, two, one, "update 5, update 10, move 6 under 5 behind 9, remove 8");
        // The one ahead in the copy has been moved already: positions are those of the copy as it is then.
        int three = Check.grow(x, "3.0(1.1#1 1.2#2 1.3#3)");
        int four = Check.grow(x, "3.0(1.3#3 1.1#1 1.2#2)");
        found(x, three, four, "move 12 under 11 behind 14, move 13 under 11 behind 12");
    }

    private static void turns() {
        Shop x = new Shop();
        int one = Check.grow(x, "0.0(1.1 1.2 1.3(2.4))");
        x.copy(one);
        x.set(2, 9);
        x.move(1, 0, 2);
        x.drop(4);
        x.node(2, 0, 2, 5, NONE);
        x.seal();
        int script = x.find(0, 1);
        Check.is("found", Check.script(x, script), "update 2, put 5 under 2, move 1 under 0 behind 3, remove 4");
        int back = x.turn(script);
        Check.is("the number", back, 1);
        Check.is("turned", Check.script(x, back), "put 4 under 3, move 1 under 0, remove 5, update 2");
        Check.is("and once more", Check.script(x, x.turn(back)), Check.script(x, script));
        int there = x.apply(2, 0);
        Check.is("it is the one that was found", x.areSame(there, 1), true);
        Check.index(x, "no script", () -> x.turn(3));
        Check.index(x, "script -1", () -> x.turn(-1));
        for (int i = 3; i < 40; i++) {
            Check.is("turn", x.turn(0), i);
        }
        Check.state(x, "there are 40", () -> x.turn(0));
        Check.state(x, "there are 40", () -> x.find(0, 1));
        Check.index(x, "the index first", () -> x.turn(40));
        Check.index(x, "the index first", () -> x.find(0, 3));
        Check.is("those are there still", x.steps(39), 4);
    }

    private static void reads() {
        Shop x = new Shop();
        int one = Check.grow(x, "0.0(1.1 1.2 1.3)");
        x.copy(one);
        x.set(0, 1);
        x.node(0, 3, 2, 4, NONE);
        x.move(1, 2, 0);
        x.drop(3);
        int script = x.find(one, x.seal());
        Check.is("steps", x.steps(script), 4);
        int[] kinds = {TwigPatch.UPDATE, TwigPatch.MOVE, TwigPatch.PUT, TwigPatch.REMOVE};
        int[] marks = {0, 1, 4, 3};
        int[] parents = {NONE, 2, 0, NONE};
        int[] aheads = {NONE, NONE, 2, NONE};
        for (int step = 0; step < 4; step++) {
            Check.is("kind of " + step, x.stepKind(script, step), kinds[step]);
            Check.is("mark of " + step, x.stepMark(script, step), marks[step]);
            Check.is("parent of " + step, x.stepTo(script, step, true), parents[step]);
            Check.is("ahead of " + step, x.stepTo(script, step, false), aheads[step]);
        }
        for (int step : new int[] {-1, 4}) {
            Check.index(x, "kind of " + step, () -> x.stepKind(script, step));
            Check.index(x, "mark of " + step, () -> x.stepMark(script, step));
            Check.index(x, "parent of " + step, () -> x.stepTo(script, step, true));
            Check.index(x, "ahead of " + step, () -> x.stepTo(script, step, false));
        }
        for (int number : new int[] {-1, 1, 40}) {
            Check.index(x, "steps of " + number, () -> x.steps(number));
            Check.index(x, "kind in " + number, () -> x.stepKind(number, 0));
            Check.index(x, "mark in " + number, () -> x.stepMark(number, 0));
            Check.index(x, "to in " + number, () -> x.stepTo(number, 0, true));
        }
    }

    private static void wrongly() {
        Shop x = new Shop();
        Check.grow(x, "0.0");
        Check.grow(x, "1.0");
        Check.grow(x, "0.0#0");
        Check.index(x, "no tree", () -> x.find(3, 0));
        Check.index(x, "no tree", () -> x.find(0, 3));
        Check.index(x, "no tree", () -> x.find(-1, 0));
        Check.state(x, "unlike kinds", () -> x.find(0, 1));
        Check.state(x, "unlike identities", () -> x.find(0, 2));
        Check.is("no script was made", x.find(0, 0), 0);
    }
}
