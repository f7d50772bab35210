/** Promises 13, 14 and 31 to 33: merging, its policies and conflicts. */
public final class MergeTest {
    private static final int NONE = TwigPatch.NONE;
    private static final int[] POLICIES = {TwigPatch.NEITHER, TwigPatch.LEFT, TwigPatch.RIGHT};

    public static void main(String[] args) {
        setsPolicies();
        bothSides();
        leavesOut();
        gone();
        goneByPolicy();
        values();
        valuesOfNew();
        places();
        placesOfNew();
        lost();
        rings();
        ringsWithNew();
        ringsAndLost();
        orders();
        ordersThatAgree();
        ordersByPolicy();
        ordersOfOthers();
        ordersOfFewer();
        others();
        othersOfBoth();
        withoutOrder();
        listsInOrder();
        wrongly();
        Check.end();
    }

    /** Merges both ways round, under the policies in turn, as told. */
    private static void merged(Shop x, int base, int left, int right, String conflicts, String... due) {
        for (int i = 0; i < due.length; i++) {
            for (int kind : new int[] {TwigPatch.GONE, TwigPatch.VALUE, TwigPatch.PLACE, TwigPatch.ORDER}) {
                x.setPolicy(kind, POLICIES[i]);
            }
            int count = x.trees();
            Check.is("the number", x.merge(base, left, right), count);
            Check.is("conflicts of " + due[i], Check.conflicts(x), conflicts);
            Check.tree("policy " + i, x, count, due[i]);
        }
    }

    private static void symmetric(Shop x, int base, int left, int right, String conflicts, String due) {
        merged(x, base, left, right, conflicts, due);
        merged(x, base, right, left, conflicts, due);
    }

    private static void setsPolicies() {
        Shop x = new Shop();
        for (int kind : new int[] {TwigPatch.GONE, TwigPatch.VALUE, TwigPatch.PLACE, TwigPatch.ORDER}) {
            Check.is("at first", x.setPolicy(kind, TwigPatch.RIGHT), TwigPatch.NEITHER);
            Check.is("then", x.setPolicy(kind, TwigPatch.LEFT), TwigPatch.RIGHT);
            Check.argument(x, "policy -1", () -> x.setPolicy(kind, -1));
            Check.argument(x, "policy 3", () -> x.setPolicy(kind, 3));
            Check.is("a wrong one changes nothing", x.setPolicy(kind, TwigPatch.NEITHER), TwigPatch.LEFT);
        }
        for (int kind : new int[] {-1, TwigPatch.LOST, TwigPatch.RING, 6}) {
            Check.argument(x, "no policy for " + kind, () -> x.setPolicy(kind, TwigPatch.LEFT));
        }
    }

    private static void bothSides() {
        Shop x = new Shop();
        int base = Check.grow(x, "0.0(1.1 1.2(1.3) 1.4)");
        x.set(1, 9);
        x.move(4, 2, 0);
        int left = x.seal();
        x.copy(base);
        x.set(3, 8);
        x.node(0, 3, 2, 5, NONE);
        int right = x.seal();
        symmetric(x, base, left, right, "", "0:0(1:9 2:2(4:4 3:8) 5:5)");
        symmetric(x, base, base, left, "", "0:0(1:9 2:2(4:4 3:3))");
        symmetric(x, base, left, left, "", "0:0(1:9 2:2(4:4 3:3))");
        symmetric(x, base, base, base, "", "0:0(1:1 2:2(3:3) 4:4)");
        merged(x, left, base, base, "", "0:0(1:1 2:2(3:3) 4:4)");
    }

    private static void leavesOut() {
        Shop x = new Shop();
        int base = Check.grow(x, "0.0(1.1 1.2(1.3 1.4) 1.5)");
        x.drop(1);
        x.drop(5);
        int left = x.seal();
        x.copy(base);
        x.drop(5);
        int right = x.seal();
        symmetric(x, base, left, right, "", "0:0(2:2(3:3 4:4))");
        x.copy(base);
        x.drop(2);
        int without = x.seal();
        // Neither another order of its children, nor one less, touches a mark; nor what a child has.
        x.copy(base);
        x.move(4, 2, 0);
        symmetric(x, base, without, x.seal(), "", "0:0(1:1 5:5)");
        x.drop(4);
        symmetric(x, base, without, x.seal(), "", "0:0(1:1 5:5)");
        x.copy(base);
        x.move(2, 0, 0);
        symmetric(x, base, without, x.seal(), "", "0:0(1:1 5:5)");
    }

    private static void gone() {
        Shop x = new Shop();
        int base = Check.grow(x, "0.0(1.1 1.2(1.3))");
        x.drop(1);
        int left = x.seal();
        x.copy(base);
        x.set(1, 9);
        symmetric(x, base, left, x.seal(), "GONE 1", "0:0(1:9 2:2(3:3))");
        x.copy(base);
        x.move(1, 2, 0);
        symmetric(x, base, left, x.seal(), "GONE 1", "0:0(2:2(1:1 3:3))");
        x.copy(base);
        x.node(1, 0, 2, 4, NONE);
        symmetric(x, base, left, x.seal(), "GONE 1", "0:0(1:1(4:4) 2:2(3:3))");
        x.copy(base);
        x.move(3, 1, 0);
        symmetric(x, base, left, x.seal(), "GONE 1", "0:0(1:1(3:3) 2:2)");
    }

    private static void goneByPolicy() {
        Shop x = new Shop();
        int base = Check.grow(x, "0.0(1.1 1.2)");
        x.set(1, 9);
        x.move(1, 2, 0);
        int touching = x.seal();
        x.copy(base);
        x.drop(1);
        int dropping = x.seal();
        merged(x, base, dropping, touching, "GONE 1", "0:0(2:2(1:9))", "0:0(2:2)", "0:0(2:2(1:9))");
        merged(x, base, touching, dropping, "GONE 1", "0:0(2:2(1:9))", "0:0(2:2(1:9))", "0:0(2:2)");
    }

    private static void values() {
        Shop x = new Shop();
        int base = Check.grow(x, "0.1(1.1)");
        x.set(1, 7);
        x.set(0, 5);
        int left = x.seal();
        x.set(1, 8);
        int right = x.seal();
        merged(x, base, left, right, "VALUE 1", "0:5(1:1)", "0:5(1:7)", "0:5(1:8)");
        merged(x, base, right, left, "VALUE 1", "0:5(1:1)", "0:5(1:8)", "0:5(1:7)");
        x.set(0, 6);
        merged(x, base, left, x.seal(), "VALUE 0, VALUE 1", "0:1(1:1)", "0:5(1:7)", "0:6(1:8)");
    }

    private static void valuesOfNew() {
        Shop x = new Shop();
        int base = Check.grow(x, "0.1");
        x.node(0, 0, 1, 2, NONE);
        x.node(0, 1, 1, 2, NONE);
        int left = x.seal();
        x.set(1, 3);
        int right = x.seal();
        merged(x, base, left, right, "VALUE 1", "0:1(1:2 2:2)", "0:1(1:2 2:2)", "0:1(1:3 2:2)");
        merged(x, base, right, left, "VALUE 1", "0:1(1:3 2:2)", "0:1(1:3 2:2)", "0:1(1:2 2:2)");
    }

    private static void places() {
        Shop x = new Shop();
        int base = Check.grow(x, "0.0(1.1 1.2 1.3)");
        x.move(1, 2, 0);
        int left = x.seal();
        x.copy(base);
        x.move(1, 3, 0);
        int right = x.seal();
        merged(x, base, left, right, "PLACE 1", "0:0(1:1 2:2 3:3)", "0:0(2:2(1:1) 3:3)", "0:0(2:2 3:3(1:1))");
        merged(x, base, right, left, "PLACE 1", "0:0(1:1 2:2 3:3)", "0:0(2:2 3:3(1:1))", "0:0(2:2(1:1) 3:3)");
        symmetric(x, base, left, base, "", "0:0(2:2(1:1) 3:3)");
    }

    private static void placesOfNew() {
        Shop x = new Shop();
        int base = Check.grow(x, "0.0(1.1)");
        x.node(0, 0, 2, 2, NONE);
        int left = x.seal();
        x.move(2, 1, 0);
        int right = x.seal();
        merged(x, base, left, right, "PLACE 2", "0:0(2:2 1:1)", "0:0(2:2 1:1)", "0:0(1:1(2:2))");
        merged(x, base, right, left, "PLACE 2", "0:0(1:1(2:2))", "0:0(1:1(2:2))", "0:0(2:2 1:1)");
    }

    private static void lost() {
        Shop x = new Shop();
        int base = Check.grow(x, "0.0(1.1 1.2(1.3(1.4)))");
        x.drop(2);
        int left = x.seal();
        x.copy(base);
        x.set(3, 9);
        x.set(4, 8);
        int right = x.seal();
        // 2 is not touched, but 3 is, and under it; what comes in again is as in the base.
        symmetric(x, base, left, right, "GONE 3, GONE 4, LOST 2", "0:0(1:1 2:2(3:9(4:8)))");
        x.copy(base);
        x.set(2, 7);
        x.set(3, 9);
        x.node(4, 0, 2, 5, NONE);
        right = x.seal();
        merged(x, base, left, right, "GONE 2, GONE 3, GONE 4", "0:0(1:1 2:7(3:9(4:4(5:5))))");
        x.setPolicy(TwigPatch.GONE, TwigPatch.LEFT);
        int tree = x.merge(base, left, right);
        Check.is("conflicts", Check.conflicts(x), "GONE 2, GONE 3, GONE 4, LOST 4, LOST 3, LOST 2");
        Check.tree("as the base has them", x, tree, "0:0(1:1 2:2(3:3(4:4(5:5))))");
    }

    private static void rings() {
        Shop x = new Shop();
        int base = Check.grow(x, "0.0(1.1 1.2 1.3)");
        x.move(1, 2, 0);
        int left = x.seal();
        x.copy(base);
        x.move(2, 1, 0);
        symmetric(x, base, left, x.seal(), "RING 1, RING 2", "0:0(1:1 2:2 3:3)");
        x.copy(base);
        x.move(3, 1, 0);
        x.move(2, 3, 0);
        symmetric(x, base, left, x.seal(), "RING 1, RING 2, RING 3", "0:0(1:1 2:2 3:3)");
        // What hangs on a ring is not in it.
        x.copy(base);
        x.move(2, 1, 0);
        x.move(3, 2, 0);
        symmetric(x, base, left, x.seal(), "RING 1, RING 2", "0:0(1:1 2:2(3:3))");
    }

    private static void ringsWithNew() {
        Shop x = new Shop();
        int base = Check.grow(x, "0.0(1.1 1.2)");
        x.node(2, 0, 3, 3, NONE);
        x.move(1, 3, 0);
        int left = x.seal();
        x.copy(base);
        x.move(2, 1, 0);
        symmetric(x, base, left, x.seal(), "RING 1, RING 2", "0:0(1:1 2:2(3:3))");
    }

    private static void ringsAndLost() {
        Shop x = new Shop();
        int base = Check.grow(x, "0.0(1.1 1.2(1.3) 1.4(1.5))");
        // 3 and 5 go under each other; 2 and 4 are dropped on one side, and not touched on the other.
        x.move(3, 5, 0);
        x.drop(2);
        int left = x.seal();
        x.copy(base);
        x.move(5, 3, 0);
        x.drop(4);
        int right = x.seal();
        symmetric(x, base, left, right, "RING 3, RING 5, LOST 2, LOST 4", "0:0(1:1 2:2(3:3) 4:4(5:5))");
    }

    private static void orders() {
        Shop x = new Shop();
        int base = Check.grow(x, "0.0(1.1 1.2 1.3 1.4)");
        x.move(4, 0, 0);
        x.move(2, 0, 3);
        int left = x.seal();
        Check.tree("left", x, left, "0:0(4:4 1:1 3:3 2:2)");
        // A side on which no two are the other way round leaves the order to the other one.
        symmetric(x, base, left, base, "", "0:0(4:4 1:1 3:3 2:2)");
        x.copy(base);
        x.drop(3);
        symmetric(x, base, left, x.seal(), "", "0:0(4:4 1:1 2:2)");
        x.copy(base);
        x.move(1, 2, 0);
        symmetric(x, base, left, x.seal(), "", "0:0(4:4 3:3 2:2(1:1))");
    }

    private static void ordersThatAgree() {
        Shop x = new Shop();
        int base = Check.grow(x, "0.0(1.1 1.2 1.3 1.4)");
        x.move(3, 0, 0);
        x.node(0, 1, 2, 5, NONE);
        int left = x.seal();
        x.copy(base);
        x.move(3, 0, 0);
        x.drop(4);
        symmetric(x, base, left, x.seal(), "", "0:0(3:3 5:5 1:1 2:2)");
    }

    private static void ordersByPolicy() {
        Shop x = new Shop();
        int base = Check.grow(x, "0.0(1.1 1.2 1.3)");
        x.move(3, 0, 0);
        x.node(0, 1, 2, 4, NONE);
        int left = x.seal();
        Check.tree("left", x, left, "0:0(3:3 4:4 1:1 2:2)");
        x.copy(base);
        x.move(2, 0, 0);
        int right = x.seal();
        Check.tree("right", x, right, "0:0(2:2 1:1 3:3)");
        merged(x, base, left, right, "ORDER 0", "0:0(1:1 2:2 3:3 4:4)", "0:0(3:3 4:4 1:1 2:2)",
                "0:0(2:2 1:1 3:3 4:4)");
        merged(x, base, right, left, "ORDER 0", "0:0(1:1 2:2 3:3 4:4)", "0:0(2:2 1:1 3:3 4:4)",
                "0:0(3:3 4:4 1:1 2:2)");
    }

    /** The orders agree but for one child that each side alone has there. */
    private static void ordersOfOthers() {
        Shop x = new Shop();
        int base = Check.grow(x, "0.0(1.1 1.2 1.3 1.4)");
        x.drop(2);
        x.set(1, 9);
        x.move(4, 0, 1);
        int left = x.seal();
        Check.tree("left", x, left, "0:0(1:9 4:4 3:3)");
        x.copy(base);
        x.drop(1);
        x.set(2, 9);
        x.move(4, 0, 1);
        int right = x.seal();
        Check.tree("right", x, right, "0:0(2:9 4:4 3:3)");
        symmetric(x, base, left, right, "GONE 1, GONE 2, ORDER 0", "0:0(1:9 2:9 3:3 4:4)");
        x.setPolicy(TwigPatch.ORDER, TwigPatch.RIGHT);
        Check.tree("by the right one", x, x.merge(base, left, right), "0:0(1:9 2:9 4:4 3:3)");
    }

    /** Children that the side whose order is taken does not have there come behind those of the base. */
    private static void ordersOfFewer() {
        Shop x = new Shop();
        int base = Check.grow(x, "0.0(1.1 1.2 1.3 1.4 1.5)");
        x.drop(1);
        x.drop(3);
        x.move(4, 0, 0);
        int left = x.seal();
        Check.tree("left", x, left, "0:0(4:4 2:2 5:5)");
        x.copy(base);
        x.set(1, 9);
        x.set(3, 9);
        int right = x.seal();
        symmetric(x, base, left, right, "GONE 1, GONE 3", "0:0(1:9 4:4 2:2 3:9 5:5)");
        x.move(5, 0, 0);
        right = x.seal();
        // Both have turned some, and the right one has more of them there.
        merged(x, base, left, right, "GONE 1, GONE 3, ORDER 0", "0:0(1:9 2:2 3:9 4:4 5:5)");
        x.setPolicy(TwigPatch.ORDER, TwigPatch.LEFT);
        Check.tree("by the left one", x, x.merge(base, left, right), "0:0(1:9 4:4 2:2 3:9 5:5)");
        x.setPolicy(TwigPatch.ORDER, TwigPatch.RIGHT);
        Check.tree("by the right one", x, x.merge(base, left, right), "0:0(5:5 1:9 2:2 3:9 4:4)");
    }

    private static void others() {
        Shop x = new Shop();
        int base = Check.grow(x, "0.0(1.1 1.2 1.3(1.4))");
        x.node(0, 2, 2, 5, NONE);
        x.node(0, 3, 2, 6, NONE);
        x.node(0, 0, 2, 7, NONE);
        int left = x.seal();
        Check.tree("left", x, left, "0:0(7:7 1:1 2:2 5:5 6:6 3:3(4:4))");
        x.copy(base);
        x.node(0, 2, 2, 8, NONE);
        x.node(0, 0, 2, 9, NONE);
        x.move(4, 0, 4);
        x.drop(2);
        int right = x.seal();
        Check.tree("right", x, right, "0:0(9:9 1:1 8:8 4:4 3:3)");
        symmetric(x, base, left, right, "", "0:0(9:9 7:7 1:1 8:8 5:5 6:6 4:4 3:3)");
    }

    private static void othersOfBoth() {
        Shop x = new Shop();
        int base = Check.grow(x, "0.0(1.1 1.2)");
        x.node(0, 2, 2, 3, NONE);
        int left = x.seal();
        Check.tree("left", x, left, "0:0(1:1 2:2 3:3)");
        x.move(3, 0, 1);
        int right = x.seal();
        // The nearest ones ahead are 2 and 1: by the side with the lower one.
        symmetric(x, base, left, right, "", "0:0(1:1 3:3 2:2)");
        x.move(3, 0, 0);
        symmetric(x, base, left, x.seal(), "", "0:0(3:3 1:1 2:2)");
        // Base has it elsewhere, and just one side keeps it here.
        x.copy(base);
        x.move(2, 1, 0);
        int below = x.seal();
        symmetric(x, below, base, below, "", "0:0(1:1 2:2)");
        symmetric(x, below, base, base, "", "0:0(1:1 2:2)");
    }

    private static void withoutOrder() {
        Shop x = new Shop();
        int base = Check.grow(x, "5.0(1.1 4.2(1.3) 1.4)");
        x.node(2, 0, 2, 5, NONE);
        x.move(4, 2, 0);
        int left = x.seal();
        x.copy(base);
        x.node(0, 0, 2, 6, NONE);
        x.move(1, 2, 0);
        symmetric(x, base, left, x.seal(), "", "0:0(2:2(1:1 3:3 4:4 5:5) 6:6)");
    }

    private static void listsInOrder() {
        Shop x = new Shop();
        int base = Check.grow(x, "0.0(1.1(1.2 1.3) 1.4(1.5 1.6) 1.7 1.8 1.9)");
        x.set(9, 1);
        x.set(1, 1);
        x.move(9, 1, 2);
        x.move(3, 1, 0);
        x.move(6, 4, 0);
        x.move(4, 0, 0);
        x.set(5, 50);
        x.drop(7);
        int left = x.seal();
        x.copy(base);
        x.set(9, 2);
        x.move(9, 4, 0);
        x.node(1, 0, 2, 10, NONE);
        x.move(3, 1, 0);
        x.move(6, 4, 0);
        x.move(8, 0, 0);
        x.set(5, 51);
        x.set(7, 70);
        int right = x.seal();
        Check.is("left", Check.told(x, left), "0:0(4:4(6:6 5:50) 1:1(3:3 2:2 9:1) 8:8)");
        Check.is("right", Check.told(x, right), "0:0(8:8 1:1(3:3 10:10 2:2) 4:4(6:6 9:2 5:51) 7:70)");
        merged(x, base, left, right, "VALUE 5, GONE 7, VALUE 9, PLACE 9, ORDER 0",
                "0:0(1:1(3:3 10:10 2:2) 4:4(6:6 5:5) 7:70 8:8 9:9)");
        Check.is("conflicts", x.conflicts(), 5);
        Check.is("kind", x.conflictKind(3), TwigPatch.PLACE);
        Check.is("mark", x.conflictMark(3), 9);
        Check.index(x, "no conflict", () -> x.conflictKind(5));
        Check.index(x, "no conflict", () -> x.conflictMark(5));
        Check.index(x, "conflict -1", () -> x.conflictKind(-1));
        Check.index(x, "conflict -1", () -> x.conflictMark(-1));
        x.copy(left);
        x.move(2, 1, 0);
        left = x.seal();
        x.copy(right);
        x.move(6, 4, 2);
        // Those of the order come by the result in order: that of 1 is none, as left has turned none there.
        merged(x, base, left, x.seal(), "VALUE 5, GONE 7, VALUE 9, PLACE 9, ORDER 0",
                "0:0(1:1(3:3 10:10 2:2) 4:4(6:6 5:5) 7:70 8:8 9:9)");
        ordersInOrder();
    }

    private static void ordersInOrder() {
        Shop x = new Shop();
        int base = Check.grow(x, "0.0(1.1(1.2 1.3 1.4) 1.5(1.6 1.7 1.8))");
        x.move(1, 0, 1);
        x.move(2, 1, 2);
        x.move(6, 5, 2);
        int left = x.seal();
        x.copy(base);
        x.move(2, 1, 1);
        x.move(6, 5, 1);
        int right = x.seal();
        symmetric(x, base, left, right, "ORDER 5, ORDER 1", "0:0(5:5(6:6 7:7 8:8) 1:1(2:2 3:3 4:4))");
    }

    private static void wrongly() {
        Shop x = new Shop();
        int base = Check.grow(x, "0.0(1.1)");
        x.set(1, 2);
        int left = x.seal();
        x.set(1, 3);
        int right = x.seal();
        int other = Check.grow(x, "0.0(1.1)");
        Check.is("none yet", x.conflicts(), 0);
        Check.index(x, "none yet", () -> x.conflictKind(0));
        x.merge(base, left, right);
        Check.is("conflicts", Check.conflicts(x), "VALUE 1");
        Check.index(x, "no base", () -> x.merge(5, 0, 0));
        Check.index(x, "no left", () -> x.merge(0, 5, 0));
        Check.index(x, "no right", () -> x.merge(0, 0, 5));
        Check.index(x, "base -1", () -> x.merge(-1, 0, 0));
        Check.index(x, "the index first", () -> x.merge(other, 0, 5));
        Check.state(x, "another base", () -> x.merge(other, 0, 0));
        Check.state(x, "another left", () -> x.merge(0, other, 0));
        Check.state(x, "another right", () -> x.merge(0, 0, other));
        for (int i = 5; i < 40; i++) {
            Check.is("merge", x.merge(base, left, right), i);
        }
        Check.state(x, "there are 40 trees", () -> x.merge(base, left, left));
        Check.index(x, "the index first", () -> x.merge(base, left, 40));
        Check.is("conflicts of the last one", Check.conflicts(x), "VALUE 1");
    }
}
