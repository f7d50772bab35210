/** Promises 25 and 26: match and likeness. */
public final class MatchTest {
    private static final int NONE = TwigPatch.NONE;

    public static void main(String[] args) {
        byMarks();
        byRoots();
        byIdentities();
        byAlikeness();
        byAlikenessWithoutOrder();
        fromAbove();
        fromBelow();
        likenessInTheEnd();
        wrongly();
        Check.end();
    }

    /**
     * Grows both trees, and compares with which node each old one is matched, in order; the numbers
     * of new nodes count from 0 for the new root.
     */
    static void matched(String old, String young, int... due) {
        Shop x = new Shop();
        int from = Check.grow(x, old);
        int to = Check.grow(x, young);
        int shift = x.size(from);
        for (int place = 0; place < due.length; place++) {
            int want = due[place] == NONE ? NONE : due[place] + shift;
            Check.is(old + " to " + young + ", node " + place, x.match(from, to, x.markAt(from, place)), want);
        }
    }

    private static void byMarks() {
        Shop x = new Shop();
        int one = Check.grow(x, "0.0(1.1#5 1.2(2.3))");
        x.copy(one);
        x.set(1, 9);
        x.move(1, 2, 0);
        x.drop(3);
        x.node(0, 0, 1, 1, 5);
        x.node(0, 0, 2, 3, NONE);
        int two = x.seal();
        Check.is("the root", x.match(one, two, 0), 0);
        Check.is("the same mark goes ahead of all", x.match(one, two, 1), 1);
        Check.is("the parent", x.match(one, two, 2), 2);
        Check.is("a mark that is gone", x.match(one, two, 3), 5);
        Check.is("the other way", x.match(two, one, 4), NONE);
        Check.is("with itself", x.match(one, one, 3), 3);
    }

    private static void byRoots() {
        matched("0.1", "0.2", 0);
        matched("4.1#7(1.1)", "4.2#7(2.1)", 0, NONE);
        matched("1.1(1.1)", "1.1(1.1)", 0, 1);
    }

    private static void byIdentities() {
        matched("0.0(1.1#5)", "0.0(2.1#5 1.7#5 1.1#5)", 0, 2);
        matched("0.0(1.1#5 1.2#5 1.3#5)", "0.0(1.3#5 1.1#5)", 0, 1, 2, NONE);
        matched("0.0(1.1#5(2.2#6))", "0.0(2.3#6(1.4#5))", 0, 2, 1);
        matched("0.0(1.1#0)", "0.0(1.1 3.0(1.2#0))", 0, 3);
        matched("0.0(1.1)", "0.0(1.1#0)", 0, NONE);
        matched("0.0(1.1#1)", "0.0(1.1#0)", 0, NONE);
    }

    private static void byAlikeness() {
        matched("0.0(1.1(2.2 2.3))", "0.0(1.9 3.0(1.1(2.2 2.3)))", 0, 3, 4, 5);
        matched("0.0(1.1(2.2 2.3))", "0.0(1.1(2.3 2.2) 3.0(1.1(2.2 2.3)))", 0, 5, 6, 7);
        matched("0.0(1.1 1.1)", "0.0(3.0(1.1) 1.1)", 0, 2, 3);
        matched("0.0(1.1 3.0(1.1(2.2)))", "0.0(1.1(2.2) 3.9(1.1))", 0, 4, 3, 1, 2);
        // What is below is taken along by the first one in order, and not found on its own.
        matched("0.0(1.1(2.2) 2.2)", "0.0(2.2 1.1(2.2))", 0, 2, 3, 1);
        // A node below which one is matched is not taken, however alike it is.
        matched("0.0(1.1(2.2#4))", "0.0(1.9 3.0(1.1(2.2#4)))", 0, 1, 4);
        matched("0.0(1.1(2.2#4 2.3) 2.3)", "0.0(1.1(2.2#4 2.3))", 0, 1, 2, 3, NONE);
        // Nor one of the new tree, below which one was taken just before.
        matched("0.0(2.2 3.1(1.1(2.2)))", "0.0(1.1(2.2) 3.8)", 0, 2, 3, NONE, NONE);
    }

    private static void byAlikenessWithoutOrder() {
        matched("0.0(4.1(1.1(2.5) 1.1 1.2))", "0.0(4.1(1.2 1.1 1.1(2.5)))", 0, 1, 4, 5, 3, 2);
        matched("0.0(4.1(1.1 1.2))", "0.0(1.1 4.1(1.2 1.1))", 0, 2, 4, 3);
        matched("0.0(4.1(1.1 1.1))", "0.0(4.9 5.0(4.1(1.1 1.1)))", 0, 3, 4, 5);
        matched("0.0(5.1(4.2(1.3 1.4) 4.2(1.5)))", "0.0(5.1(4.2(1.5) 4.2(1.4 1.3)))", 0, 1, 4, 6, 5, 2, 3);
        matched("0.0(4.1(1.1 1.2))", "0.0(3.0(4.1(1.1 1.2 1.2)))", 0, 2, 3, 4);
    }

    private static void fromAbove() {
        // By values ahead of all without, though the first new one comes first.
        matched("0.0(1.5(2.1) 1.6(2.2))", "0.0(1.7(2.3) 1.5(2.4))", 0, 3, 4, 1, 2);
        matched("0.0(1.1(2.1) 1.2(2.2))", "0.0(1.2(2.3) 1.1(2.4))", 0, 3, 4, 1, 2);
        // Without values the first one; and just among the children of the one that is matched.
        matched("0.0(1.1 1.2)", "0.0(1.3 1.4 1.5)", 0, 1, 2);
        matched("0.0(1.1(2.1))", "0.0(1.2 2.5)", 0, 1, NONE);
        matched("0.0(1.1(2.1(3.1)))", "0.0(1.2(2.2(3.2)))", 0, 1, 2, 3);
        matched("0.0(1.1)", "0.0(2.1)", 0, NONE);
        // Below those that are matched without values, no values are looked at.
        matched("0.0(1.1(2.1(3.1) 2.2(3.2)))", "0.0(1.9(2.2(3.8) 2.1(3.9)))", 0, 1, 2, 3, 4, 5);
        matched("0.0(1.1(2.1(3.1) 2.2(3.2)))", "0.0(1.1(2.2(3.8) 2.1(3.9)))", 0, 1, 4, 5, 2, 3);
    }

    private static void fromBelow() {
        matched("0.0(1.0(2.1 2.2))", "0.0(3.0(1.9(2.1 2.2 2.3)))", 0, 2, 3, 4);
        matched("0.0(1.0(2.1 2.2))", "0.0(3.0(1.9(2.1 2.7)))", 0, 2, 3, NONE);
        matched("0.0(1.0(2.1 2.2))", "0.0(3.0(1.9(2.1 2.7 2.8)))", 0, NONE, 3, NONE);
        // The greatest; of several the first one in order.
        matched("0.0(1.0(2.1 2.2))", "0.0(3.0(1.9(2.1 2.7) 1.9(2.2)))", 0, 5, 3, 6);
        matched("0.0(1.0(2.1 2.2))", "0.0(3.0(1.9(2.1) 1.9(2.2)))", 0, 2, 3, 5);
        matched("0.0(1.0(2.1 2.2))", "0.0(3.0(1.9#3(2.1) 2.9(2.2)))", 0, NONE, 3, 5);
        // The last old one first; and what is matched so counts for those above it.
        matched("0.0(1.0(2.1 2.2) 1.5(2.3 2.4))", "0.0(3.0(1.9(2.1 2.2 2.3 2.4)))", 0, NONE, 3, 4, 2, 5, 6);
        matched("0.0(1.0(1.5(2.1)))", "0.0(3.0(1.9(1.8(2.1))))", 0, 2, 3, 4);
    }

    private static void likenessInTheEnd() {
        Shop x = new Shop();
        int old = Check.grow(x, "0.0(1.0(2.1 2.2) 3.3)");
        int young = Check.grow(x, "0.0(3.0(1.9(2.1 2.2 2.7)) 2.8)");
        Check.is("the roots", x.likeness(old, young, 0, 5), 2f * 4 / 10);
        Check.is("a matched pair", x.likeness(old, young, 1, 7), 2f * 2 / 5);
        Check.is("another kind", x.likeness(old, young, 1, 6), 2f * 2 / 6);
        Check.is("none in common", x.likeness(old, young, 1, 11), 0f);
        Check.is("a leaf", x.likeness(old, young, 4, 7), 0f);
        Check.is("two leaves, though matched", x.likeness(old, young, 2, 8), 0f);
        Check.is("with itself", x.likeness(old, old, 1, 1), 1f);
        Check.is("the other way", x.likeness(young, old, 7, 1), 2f * 2 / 5);
    }

    private static void wrongly() {
        Shop x = new Shop();
        Check.grow(x, "0.0(1.1)");
        Check.grow(x, "1.0(1.1)");
        Check.grow(x, "0.0#1(1.1)");
        Check.index(x, "no tree", () -> x.match(-1, 0, 0));
        Check.index(x, "no new tree", () -> x.match(0, 3, 0));
        Check.index(x, "a mark of another tree", () -> x.match(0, 0, 2));
        Check.index(x, "no mark", () -> x.match(0, 0, 6));
        Check.index(x, "mark -1", () -> x.match(0, 0, -1));
        Check.index(x, "the index first", () -> x.match(0, 1, 2));
        Check.state(x, "unlike kinds", () -> x.match(0, 1, 1));
        Check.state(x, "unlike identities", () -> x.match(0, 2, 1));
        Check.index(x, "no tree", () -> x.likeness(3, 0, 0, 0));
        Check.index(x, "no new tree", () -> x.likeness(0, -1, 0, 0));
        Check.index(x, "the old one has not the mark", () -> x.likeness(0, 1, 2, 2));
        Check.index(x, "the new one has not the mark", () -> x.likeness(0, 1, 0, 0));
        Check.index(x, "no mark", () -> x.likeness(0, 0, 0, 6));
        Check.state(x, "unlike kinds", () -> x.likeness(0, 1, 1, 3));
        Check.state(x, "unlike identities", () -> x.likeness(0, 2, 1, 5));
    }
}
