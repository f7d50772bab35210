/** What the document says of merging: a test for each sentence. */
final class MergeSentences {
    private static final int NONE = TwigPatch.NONE;
    private static final int GONE = TwigPatch.GONE;
    private static final int VALUE = TwigPatch.VALUE;
    private static final int PLACE = TwigPatch.PLACE;
    private static final int ORDER = TwigPatch.ORDER;
    private static final int NEITHER = TwigPatch.NEITHER;
    private static final int LEFT = TwigPatch.LEFT;
    private static final int RIGHT = TwigPatch.RIGHT;

    private MergeSentences() {
    }

    static void check() {
        goesByMarks();
        gone();
        whichAreIn();
        values();
        parents();
        policies();
        lost();
        rings();
        ordersOfBase();
        ordersOfBoth();
        ordersOfOthers();
        result();
        setPolicy();
        merge();
        conflicts();
        conflictKinds();
        conflictMarks();
    }

    private static void merging(String words, Runnable test) {
        Sentences.holds("Merging", words, test);
    }

    private static void merged(Shop x, int base, int left, int right, String conflicts, String due) {
        int tree = x.merge(base, left, right);
        String what = Check.told(x, left) + " and " + Check.told(x, right);
        Check.is("conflicts of " + what, Check.conflicts(x), conflicts);
        Check.tree(what, x, tree, due);
    }

    /** The same both ways round. */
    private static void bothWays(Shop x, int base, int one, int other, String conflicts, String due) {
        merged(x, base, one, other, conflicts, due);
        merged(x, base, other, one, conflicts, due);
    }

    private static void setAll(Shop x, int policy) {
        for (int kind : new int[] {GONE, VALUE, PLACE, ORDER}) {
            x.setPolicy(kind, policy);
        }
    }

    // ---- the terms: which marks are in

    private static void goesByMarks() {
        merging("To merge two trees, the left and the right one, over a third one, the base, goes by marks.", () -> {
            Shop x = new Shop();
            int base = Check.grow(x, "0.0(1.1#5)");
            x.node(0, 1, 1, 2, 7);
            int left = x.seal();
            x.copy(base);
            x.node(0, 1, 1, 2, 7);
            int right = x.seal();
            Check.is("they are alike", x.areAlike(left, right), true);
            bothWays(x, base, left, right, "", "0:0(1:1 3:2 2:2)");
        });
        merging("The roots of all three must have the same mark.", () -> {
            Shop x = new Shop();
            int tree = Check.grow(x, "0.0");
            int other = Check.grow(x, "0.0");
            Check.state(x, "another base", () -> x.merge(other, tree, tree));
            Check.state(x, "another left one", () -> x.merge(tree, other, tree));
            Check.state(x, "another right one", () -> x.merge(tree, tree, other));
            Check.state(x, "another left and right one", () -> x.merge(tree, other, other));
            Check.is("the same", x.merge(other, other, other), 2);
        });
    }

    private static void gone() {
        merging("A mark of the base that just one side has not is GONE-touched, if the other side has another value, or another"
                + " parent for it than the base, or has a child of it that the base has not, or had elsewhere: a conflict GONE", () -> {
            Shop x = new Shop();
            int base = Check.grow(x, "0.0(1.1 1.2(1.3) 1.4)");
            x.drop(1);
            int without = x.seal();
            x.copy(base);
            x.set(1, 9);
            bothWays(x, base, without, x.seal(), "GONE 1", "0:0(1:9 2:2(3:3) 4:4)");
            x.copy(base);
            x.move(1, 4, 0);
            bothWays(x, base, without, x.seal(), "GONE 1", "0:0(2:2(3:3) 4:4(1:1))");
            x.copy(base);
            x.node(1, 0, 1, 5, NONE);
            bothWays(x, base, without, x.seal(), "GONE 1", "0:0(1:1(5:5) 2:2(3:3) 4:4)");
            x.copy(base);
            x.move(3, 1, 0);
            bothWays(x, base, without, x.seal(), "GONE 1", "0:0(1:1(3:3) 2:2 4:4)");
        });
        merging("otherwise it is left out.", () -> {
            Shop x = new Shop();
            int base = Check.grow(x, "0.0(1.1 1.2(1.3 1.4) 1.5)");
            x.drop(2);
            int without = x.seal();
            bothWays(x, base, without, base, "", "0:0(1:1 5:5)");
            x.copy(base);
            x.move(2, 0, 0);
            x.move(4, 2, 0);
            bothWays(x, base, without, x.seal(), "", "0:0(1:1 5:5)");
            x.drop(3);
            bothWays(x, base, without, x.seal(), "", "0:0(1:1 5:5)");
            // A child that is moved away does not touch it.
            x.copy(base);
            x.move(3, 1, 0);
            bothWays(x, base, without, x.seal(), "GONE 3", "0:0(1:1(3:3) 5:5)");
        });
    }

    private static void whichAreIn() {
        merging("A mark that both sides have not is left out, as is one of the base alone.", () -> {
            Shop x = new Shop();
            int base = Check.grow(x, "0.0(1.1 1.2(1.3))");
            x.node(0, 0, 1, 4, NONE);
            x.seal();
            x.drop(2);
            x.drop(4);
            int one = x.seal();
            x.set(1, 9);
            int other = x.seal();
            bothWays(x, base, one, other, "", "0:0(1:9)");
            // 4 is in another tree alone, and 5 in none.
            x.node(0, 0, 1, 5, NONE);
            bothWays(x, base, other, other, "", "0:0(1:9)");
        });
        merging("A mark that the base has not, and one side has, is in", () -> {
            Shop x = new Shop();
            int base = Check.grow(x, "0.0(1.1)");
            x.node(1, 0, 1, 2, NONE);
            x.node(2, 0, 1, 3, NONE);
            int with = x.seal();
            bothWays(x, base, base, with, "", "0:0(1:1(2:2(3:3)))");
            x.copy(base);
            x.node(1, 0, 1, 4, NONE);
            bothWays(x, base, with, x.seal(), "", "0:0(1:1(4:4 2:2(3:3)))");
        });
        merging("if both have it, it is in.", () -> {
            Shop x = new Shop();
            int base = Check.grow(x, "0.0(1.1)");
            x.node(1, 0, 1, 2, NONE);
            int with = x.seal();
            merged(x, base, with, with, "", "0:0(1:1(2:2))");
            x.set(1, 7);
            bothWays(x, base, with, x.seal(), "", "0:0(1:7(2:2))");
        });
    }

    private static void values() {
        merging("The value of a mark that is in: if both sides have it: the same value, if it is", () -> {
            Shop x = new Shop();
            int base = Check.grow(x, "0.0(1.1)");
            x.set(1, 7);
            x.node(0, 0, 1, 2, NONE);
            int both = x.seal();
            merged(x, base, both, both, "", "0:0(2:2 1:7)");
            merged(x, base, base, base, "", "0:0(1:1)");
        });
        merging("else that of the side that changed it from the base", () -> {
            Shop x = new Shop();
            int base = Check.grow(x, "0.0(1.1)");
            x.set(1, 0);
            x.set(0, 99);
            bothWays(x, base, base, x.seal(), "", "0:99(1:0)");
        });
        merging("if both did, in different ways, or the base has not the mark, a conflict VALUE.", () -> {
            Shop x = new Shop();
            int base = Check.grow(x, "0.1(1.1)");
            x.set(0, 2);
            x.set(1, 2);
            int left = x.seal();
            x.set(0, 3);
            x.set(1, 3);
            int right = x.seal();
            bothWays(x, base, left, right, "VALUE 0, VALUE 1", "0:1(1:1)");
            x.copy(base);
            x.node(0, 0, 1, 5, NONE);
            left = x.seal();
            x.set(2, 6);
            right = x.seal();
            merged(x, base, left, right, "VALUE 2", "0:1(2:5 1:1)");
        });
        merging("If just one side has it, its value.", () -> {
            Shop x = new Shop();
            int base = Check.grow(x, "0.0(1.1)");
            x.set(1, 8);
            x.node(0, 1, 1, 9, NONE);
            int with = x.seal();
            x.copy(base);
            x.drop(1);
            bothWays(x, base, with, x.seal(), "GONE 1", "0:0(1:8 2:9)");
        });
    }

    private static void parents() {
        merging("The parent likewise, with the conflict PLACE.", () -> {
            Shop x = new Shop();
            int base = Check.grow(x, "0.0(1.1 1.2 1.3 1.4)");
            x.move(4, 1, 0);
            int one = x.seal();
            merged(x, base, one, one, "", "0:0(1:1(4:4) 2:2 3:3)");
            bothWays(x, base, base, one, "", "0:0(1:1(4:4) 2:2 3:3)");
            x.move(4, 2, 0);
            int two = x.seal();
            bothWays(x, base, one, two, "PLACE 4", "0:0(1:1 2:2 3:3 4:4)");
            // One side has changed it back and forth; the base has it elsewhere.
            merged(x, one, base, two, "PLACE 4", "0:0(1:1(4:4) 2:2 3:3)");
            // The base has not the mark.
            x.copy(base);
            x.node(1, 0, 1, 5, NONE);
            int left = x.seal();
            x.move(5, 2, 0);
            int right = x.seal();
            merged(x, base, left, right, "PLACE 5", "0:0(1:1(5:5) 2:2 3:3 4:4)");
            merged(x, base, right, left, "PLACE 5", "0:0(1:1 2:2(5:5) 3:3 4:4)");
            // Just one side has it: its parent.
            x.copy(base);
            x.drop(4);
            bothWays(x, base, x.seal(), one, "GONE 4", "0:0(1:1(4:4) 2:2 3:3)");
        });
    }

    /** A base, a left tree and a right one, with conflicts GONE 1 and 2, VALUE and PLACE 3, VALUE and PLACE 5. */
    private static Shop contested() {
        Shop x = new Shop();
        int base = Check.grow(x, "0.0(1.1 1.2 1.3 1.4)");
        x.drop(1);
        x.set(2, 20);
        x.set(3, 30);
        x.move(3, 2, 0);
        x.node(0, 0, 1, 50, NONE);
        x.seal();
        x.copy(base);
        x.move(1, 4, 0);
        x.set(1, 10);
        x.drop(2);
        x.set(3, 31);
        x.move(3, 4, 0);
        x.seal();
        return x;
    }

    private static void policies() {
        merging("By a conflict GONE, VALUE or PLACE the policy for it decides: LEFT or RIGHT takes what that side has"
                + " (for GONE: that it has it not, or has it)", () -> {
            Shop x = contested();
            setAll(x, LEFT);
            merged(x, 0, 1, 2, "GONE 1, GONE 2, VALUE 3, PLACE 3", "0:0(5:50 2:20(3:30) 4:4)");
            merged(x, 0, 2, 1, "GONE 1, GONE 2, VALUE 3, PLACE 3", "0:0(5:50 4:4(3:31 1:10))");
            setAll(x, RIGHT);
            merged(x, 0, 1, 2, "GONE 1, GONE 2, VALUE 3, PLACE 3", "0:0(5:50 4:4(3:31 1:10))");
            merged(x, 0, 2, 1, "GONE 1, GONE 2, VALUE 3, PLACE 3", "0:0(5:50 2:20(3:30) 4:4)");
            // Each by its own policy.
            x.setPolicy(GONE, NEITHER);
            x.setPolicy(VALUE, LEFT);
            merged(x, 0, 1, 2, "GONE 1, GONE 2, VALUE 3, PLACE 3", "0:0(5:50 2:20 4:4(3:30 1:10))");
            x.setPolicy(VALUE, RIGHT);
            x.setPolicy(PLACE, LEFT);
            merged(x, 0, 1, 2, "GONE 1, GONE 2, VALUE 3, PLACE 3", "0:0(5:50 2:20(3:31) 4:4(1:10))");
        });
        merging("NEITHER, as at first, takes what the base has (for GONE just that it has it, with the value and the parent"
                + " of the side that has it, too)", () -> {
            Shop x = contested();
            bothWays(x, 0, 1, 2, "GONE 1, GONE 2, VALUE 3, PLACE 3", "0:0(5:50 2:20 3:3 4:4(1:10))");
            setAll(x, RIGHT);
            setAll(x, NEITHER);
            bothWays(x, 0, 1, 2, "GONE 1, GONE 2, VALUE 3, PLACE 3", "0:0(5:50 2:20 3:3 4:4(1:10))");
        });
        merging("if the base has not the mark, the left one.", () -> {
            Shop x = new Shop();
            int base = Check.grow(x, "0.0(1.1 1.2)");
            x.node(1, 0, 1, 5, NONE);
            int one = x.seal();
            x.set(3, 6);
            x.move(3, 2, 0);
            int other = x.seal();
            merged(x, base, one, other, "VALUE 3, PLACE 3", "0:0(1:1(3:5) 2:2)");
            merged(x, base, other, one, "VALUE 3, PLACE 3", "0:0(1:1 2:2(3:6))");
            setAll(x, RIGHT);
            merged(x, base, one, other, "VALUE 3, PLACE 3", "0:0(1:1 2:2(3:6))");
            setAll(x, LEFT);
            merged(x, base, one, other, "VALUE 3, PLACE 3", "0:0(1:1(3:5) 2:2)");
        });
        merging("The conflict is listed in any case.", () -> {
            Shop x = contested();
            for (int policy = NEITHER; policy <= RIGHT; policy++) {
                setAll(x, policy);
                x.merge(0, 1, 2);
                Check.is("policy " + policy, Check.conflicts(x), "GONE 1, GONE 2, VALUE 3, PLACE 3");
            }
        });
    }

    // ---- the terms: lost parents, and rings

    private static void lost() {
        merging("Then, again and again: if there are marks that are in, and whose parents are not in, the parent of the lowest"
                + " such one comes to be in again, with what the base has of it", () -> {
            Shop x = new Shop();
            int base = Check.grow(x, "0.0(1.1(1.2(1.3)) 1.4(1.5))");
            x.drop(1);
            x.drop(4);
            int without = x.seal();
            x.copy(base);
            x.node(3, 0, 1, 6, NONE);
            x.node(5, 0, 1, 7, NONE);
            int with = x.seal();
            bothWays(x, base, without, with, "GONE 3, GONE 5, LOST 2, LOST 1, LOST 4", "0:0(1:1(2:2(3:3(6:6))) 4:4(5:5(7:7)))");
            // By the policy the marks are out; they come again as the base has them, not as the side has.
            x.set(3, 30);
            x.move(5, 1, 1);
            with = x.seal();
            x.setPolicy(GONE, LEFT);
            merged(x, base, without, with, "GONE 1, GONE 3, GONE 5, LOST 3, LOST 2, LOST 1, LOST 5, LOST 4",
                    "0:0(1:1(2:2(3:3(6:6))) 4:4(5:5(7:7)))");
            x.setPolicy(GONE, RIGHT);
            merged(x, base, without, with, "GONE 1, GONE 3, GONE 5, LOST 2", "0:0(1:1(2:2(3:30(6:6)) 5:5(7:7)))");
        });
        merging("that is a conflict LOST of that parent. (It is in the base.)", () -> {
            Shop x = new Shop();
            int base = Check.grow(x, "0.0(1.1 1.2(1.3))");
            x.drop(2);
            int without = x.seal();
            x.copy(base);
            x.set(3, 9);
            bothWays(x, base, without, x.seal(), "GONE 3, LOST 2", "0:0(1:1 2:2(3:9))");
            // One side moves a mark to where the other one drops the parent.
            x.copy(base);
            x.move(1, 3, 0);
            bothWays(x, base, without, x.seal(), "GONE 3, LOST 2", "0:0(2:2(3:3(1:1)))");
            x.setPolicy(GONE, LEFT);
            merged(x, base, without, 3, "GONE 3", "0:0(1:1)");
        });
    }

    private static void rings() {
        merging("If there are none, but marks that are below themselves by the parents, all marks of the ring of the lowest such"
                + " one that the base has get the parents that it gives them, each a conflict RING, by rising marks.", () -> {
            Shop x = new Shop();
            int base = Check.grow(x, "0.0(1.1 1.2 1.3 1.4)");
            x.move(2, 1, 0);
            int one = x.seal();
            x.copy(base);
            x.move(1, 2, 0);
            bothWays(x, base, one, x.seal(), "RING 1, RING 2", "0:0(1:1 2:2 3:3 4:4)");
            // What hangs on the ring is not in it.
            x.move(3, 1, 0);
            x.move(4, 3, 0);
            bothWays(x, base, one, x.seal(), "RING 1, RING 2", "0:0(1:1(3:3(4:4)) 2:2)");
            // Two rings, that of the lowest mark first.
            x.copy(base);
            x.move(4, 1, 0);
            x.move(3, 2, 0);
            one = x.seal();
            x.copy(base);
            x.move(1, 4, 0);
            x.move(2, 3, 0);
            bothWays(x, base, one, x.seal(), "RING 1, RING 4, RING 2, RING 3", "0:0(1:1 2:2 3:3 4:4)");
            ringsOfMore();
            ringsWhereLost();
        });
    }

    /** A ring in which one has the base's parent already, and one that the base has not. */
    private static void ringsOfMore() {
        Shop x = new Shop();
        int base = Check.grow(x, "0.0(1.1(1.2) 1.3)");
        x.move(3, 2, 0);
        int one = x.seal();
        x.copy(base);
        x.move(1, 3, 0);
        bothWays(x, base, one, x.seal(), "RING 1, RING 2, RING 3", "0:0(1:1(2:2) 3:3)");
        x.copy(base);
        x.node(3, 0, 1, 4, NONE);
        x.move(1, 4, 0);
        bothWays(x, base, one, x.seal(), "RING 1, RING 2, RING 3", "0:0(1:1(2:2) 3:3(4:4))");
    }

    private static void ringsWhereLost() {
        Shop x = new Shop();
        int base = Check.grow(x, "0.0(1.1(1.2(1.3)) 1.4)");
        x.drop(2);
        x.move(1, 4, 0);
        int left = x.seal();
        x.copy(base);
        x.move(4, 3, 0);
        int right = x.seal();
        bothWays(x, base, left, right, "GONE 3, LOST 2, RING 1, RING 2, RING 3, RING 4", "0:0(1:1(2:2(3:3)) 4:4)");
        x.setPolicy(GONE, LEFT);
        merged(x, base, left, right, "GONE 3, LOST 3, LOST 2, RING 1, RING 2, RING 3, RING 4", "0:0(1:1(2:2(3:3)) 4:4)");
        // The parents that the base gives may be lost themselves.
        Shop y = new Shop();
        base = Check.grow(y, "0.0(1.1(1.2) 1.3(1.4))");
        y.move(2, 4, 0);
        y.drop(1);
        left = y.seal();
        y.copy(base);
        y.move(4, 2, 0);
        y.drop(3);
        bothWays(y, base, left, y.seal(), "RING 2, RING 4, LOST 1, LOST 3", "0:0(1:1(2:2) 3:3(4:4))");
    }

    // ---- the terms: orders

    private static void ordersOfBase() {
        merging("Children of a parent of the kinds 0 to 3: those that the base has under it, too, come first.", () -> {
            for (int kind = 0; kind <= 5; kind++) {
                Shop x = new Shop();
                int base = Check.grow(x, kind + ".0(1.1 1.2 1.3)");
                x.move(3, 0, 0);
                x.node(0, 1, 1, 4, NONE);
                int left = x.seal();
                x.copy(base);
                x.node(0, 1, 1, 5, NONE);
                int right = x.seal();
                // 3 comes ahead of 1 by the left one, ahead of those that the base has not.
                bothWays(x, base, left, right, "", kind < 4 ? "0:0(3:3 4:4 1:1 5:5 2:2)" : "0:0(1:1 2:2 3:3 4:4 5:5)");
            }
        });
        merging("If on one side no two of them that it has there are the other way round than in the base,"
                + " they are in the order of the other side", () -> {
            Shop x = new Shop();
            int base = Check.grow(x, "0.0(1.1 1.2 1.3 1.4)");
            x.move(4, 0, 0);
            x.move(1, 0, 3);
            int turned = x.seal();
            Check.tree("turned", x, turned, "0:0(4:4 2:2 3:3 1:1)");
            bothWays(x, base, turned, base, "", "0:0(4:4 2:2 3:3 1:1)");
            bothWays(x, base, base, base, "", "0:0(1:1 2:2 3:3 4:4)");
            // Fewer there, but none the other way round; or one alone.
            x.copy(base);
            x.drop(2);
            bothWays(x, base, turned, x.seal(), "", "0:0(4:4 3:3 1:1)");
            x.move(3, 1, 0);
            x.move(4, 1, 0);
            bothWays(x, base, turned, x.seal(), "", "0:0(1:1(4:4 3:3))");
            // Just the two that come last are the other way round.
            x.copy(base);
            x.move(4, 0, 2);
            int late = x.seal();
            bothWays(x, base, late, base, "", "0:0(1:1 2:2 4:4 3:3)");
            bothWays(x, base, turned, late, "ORDER 0", "0:0(1:1 2:2 3:3 4:4)");
            // Those that the base has elsewhere do not count.
            x.copy(base);
            x.move(4, 1, 0);
            int elsewhere = x.seal();
            x.copy(elsewhere);
            x.move(4, 0, 0);
            int here = x.seal();
            x.copy(elsewhere);
            x.move(3, 0, 0);
            bothWays(x, elsewhere, here, x.seal(), "", "0:0(4:4 3:3 1:1 2:2)");
        });
    }

    private static void ordersOfBoth() {
        merging("if on both sides two are, in the order of these, if both sides have the same ones of them there, in the same order", () -> {
            Shop x = new Shop();
            int base = Check.grow(x, "0.0(1.1 1.2 1.3)");
            x.move(3, 0, 0);
            x.node(0, 1, 1, 4, NONE);
            int left = x.seal();
            x.copy(base);
            x.move(3, 0, 0);
            x.set(1, 9);
            bothWays(x, base, left, x.seal(), "", "0:0(3:3 4:4 1:9 2:2)");
            // One that is left out on both sides, or goes elsewhere, is none of them.
            x.move(2, 1, 0);
            bothWays(x, base, left, x.seal(), "", "0:0(3:3 4:4 1:9(2:2))");
            x.drop(2);
            bothWays(x, base, left, x.seal(), "", "0:0(3:3 4:4 1:9)");
        });
        merging("otherwise that is a conflict ORDER of the parent, and they are in the order of the base, or of the side that its policy tells.", () -> {
            Shop x = new Shop();
            int base = Check.grow(x, "0.0(1.1(1.2 1.3 1.4))");
            x.move(4, 1, 0);
            int left = x.seal();
            x.copy(base);
            x.move(3, 1, 0);
            int right = x.seal();
            bothWays(x, base, left, right, "ORDER 1", "0:0(1:1(2:2 3:3 4:4))");
            x.setPolicy(ORDER, LEFT);
            merged(x, base, left, right, "ORDER 1", "0:0(1:1(4:4 2:2 3:3))");
            merged(x, base, right, left, "ORDER 1", "0:0(1:1(3:3 2:2 4:4))");
            x.setPolicy(ORDER, RIGHT);
            merged(x, base, left, right, "ORDER 1", "0:0(1:1(3:3 2:2 4:4))");
            x.setPolicy(ORDER, NEITHER);
            // The same order, but one side has one more of them there.
            x.copy(base);
            x.move(3, 1, 0);
            x.drop(4);
            int fewer = x.seal();
            x.copy(right);
            x.set(4, 9);
            int more = x.seal();
            bothWays(x, base, fewer, more, "GONE 4, ORDER 1", "0:0(1:1(2:2 3:3 4:9))");
            // As many of them, and two in the same order, but each side has one that the other one has not.
            Shop y = new Shop();
            base = Check.grow(y, "0.0(1.1 1.2 1.3 1.4)");
            y.drop(2);
            y.set(1, 10);
            y.move(4, 0, 1);
            int one = y.seal();
            y.copy(base);
            y.drop(1);
            y.set(2, 20);
            y.move(4, 0, 1);
            int other = y.seal();
            bothWays(y, base, one, other, "GONE 1, GONE 2, ORDER 0", "0:0(1:10 2:20 3:3 4:4)");
            y.setPolicy(ORDER, LEFT);
            merged(y, base, one, other, "GONE 1, GONE 2, ORDER 0", "0:0(1:10 2:20 4:4 3:3)");
        });
        merging("Those of them that this side has not there come right behind the nearest one ahead of them in the base that"
                + " stands here, in the order of the base, and first, if there is none.", () -> {
            Shop x = new Shop();
            int base = Check.grow(x, "0.0(1.1 1.2 1.3 1.4 1.5 1.6)");
            x.drop(3);
            x.drop(4);
            x.drop(6);
            x.move(5, 0, 0);
            int left = x.seal();
            Check.tree("left", x, left, "0:0(5:5 1:1 2:2)");
            x.copy(base);
            x.set(3, 30);
            x.set(4, 40);
            x.set(6, 60);
            int right = x.seal();
            bothWays(x, base, left, right, "GONE 3, GONE 4, GONE 6", "0:0(5:5 6:60 1:1 2:2 3:30 4:40)");
            x.copy(base);
            x.drop(1);
            x.drop(2);
            x.move(5, 0, 0);
            left = x.seal();
            Check.tree("left", x, left, "0:0(5:5 3:3 4:4 6:6)");
            x.copy(base);
            x.set(1, 10);
            x.set(2, 20);
            right = x.seal();
            bothWays(x, base, left, right, "GONE 1, GONE 2", "0:0(1:10 2:20 5:5 3:3 4:4 6:6)");
            // Those that LOST brings in again are on neither side.
            x.copy(base);
            x.move(6, 3, 0);
            x.drop(2);
            right = x.seal();
            x.copy(base);
            x.drop(3);
            x.drop(2);
            x.setPolicy(GONE, RIGHT);
            merged(x, base, right, x.seal(), "GONE 3, LOST 3", "0:0(1:1 3:3(6:6) 4:4 5:5)");
        });
    }

    private static void ordersOfOthers() {
        merging("Then each other child, by rising marks, comes right behind the nearest one ahead of it, on the side that has it"
                + " there, that stands here already, and first, if there is none", () -> {
            Shop x = new Shop();
            int base = Check.grow(x, "0.0(1.1 1.2)");
            x.node(0, 0, 1, 3, NONE);
            x.node(0, 0, 1, 4, NONE);
            x.node(0, 3, 1, 5, NONE);
            x.node(0, 4, 1, 6, NONE);
            int left = x.seal();
            Check.tree("left", x, left, "0:0(4:4 3:3 1:1 5:5 6:6 2:2)");
            bothWays(x, base, left, base, "", "0:0(4:4 3:3 1:1 5:5 6:6 2:2)");
            x.copy(base);
            x.node(0, 1, 1, 7, NONE);
            x.node(0, 1, 1, 8, NONE);
            x.node(0, 4, 1, 9, NONE);
            int right = x.seal();
            Check.tree("right", x, right, "0:0(1:1 8:8 7:7 2:2 9:9)");
            bothWays(x, base, left, right, "", "0:0(4:4 3:3 1:1 8:8 7:7 5:5 6:6 2:2 9:9)");
            // The one right ahead stands elsewhere: then the one ahead of that.
            x.copy(base);
            x.node(0, 2, 1, 10, NONE);
            int behind = x.seal();
            x.copy(base);
            x.move(2, 1, 0);
            bothWays(x, base, behind, x.seal(), "", "0:0(1:1(2:2) 10:10)");
        });
        merging("if both sides have it there, by that side on which the nearest one ahead that stands here has the lower mark,"
                + " none being lowest.", () -> {
            Shop x = new Shop();
            int base = Check.grow(x, "0.0(1.1 1.2 1.3)");
            x.node(0, 3, 1, 4, NONE);
            int[] at = new int[4];
            for (int place = 0; place < 4; place++) {
                x.move(4, 0, place);
                at[place] = x.seal();
            }
            for (int one = 0; one < 4; one++) {
                for (int other = 0; other < 4; other++) {
                    int tree = x.merge(base, at[one], at[other]);
                    Check.is("4 at " + one + " and " + other, x.areSame(tree, at[Math.min(one, other)]), true);
                    Check.is("conflicts", x.conflicts(), 0);
                }
            }
        });
    }

    private static void result() {
        merging("The result is a tree.", () -> {
            Shop x = contested();
            int tree = x.merge(0, 1, 2);
            Check.is("its number", tree, 3);
            Check.is("its size", x.size(tree), 6);
            Check.is("copied", x.copy(tree), 6);
            Check.is("sealed", x.areSame(x.seal(), tree), true);
            Check.is("found", x.areSame(x.apply(x.find(0, tree), 0), tree), true);
            Check.is("merged", x.areSame(x.merge(0, 0, tree), tree), true);
        });
    }

    // ---- promises

    private static void setPolicy() {
        Sentences.promise(13, "Sets the policy for a kind of conflicts.", () -> {
            Shop x = contested();
            x.setPolicy(VALUE, LEFT);
            int one = x.merge(0, 1, 2);
            Check.is("by the left one", x.value(one, 3), 30);
            x.setPolicy(VALUE, RIGHT);
            int two = x.merge(0, 1, 2);
            Check.is("by the right one", x.value(two, 3), 31);
            Check.is("the one before stays", x.value(one, 3), 30);
            x.setPolicy(VALUE, NEITHER);
            Check.is("by the base", x.value(x.merge(0, 1, 2), 3), 3);
        });
        Sentences.promise(13, "conflict: GONE, VALUE, PLACE or ORDER", () -> {
            Shop x = new Shop();
            for (int kind : new int[] {GONE, VALUE, PLACE, ORDER}) {
                Check.is("each has its own", x.setPolicy(kind, LEFT), NEITHER);
            }
            Check.arguments(x, "conflict", 0, 5, i -> x.setPolicy(i, LEFT));
            Check.argument(x, "LOST", () -> x.setPolicy(TwigPatch.LOST, LEFT));
            Check.argument(x, "RING", () -> x.setPolicy(TwigPatch.RING, LEFT));
            Check.argument(x, "RING", () -> x.setPolicy(TwigPatch.RING, NEITHER));
        });
        Sentences.promise(13, "policy: NEITHER, LEFT or RIGHT", () -> {
            Shop x = new Shop();
            for (int kind : new int[] {GONE, VALUE, PLACE, ORDER}) {
                x.setPolicy(kind, RIGHT);
                Check.is("RIGHT", x.setPolicy(kind, LEFT), RIGHT);
                Check.is("LEFT", x.setPolicy(kind, NEITHER), LEFT);
                Check.is("NEITHER", x.setPolicy(kind, RIGHT), NEITHER);
                Check.arguments(x, "policy", 0, 2, i -> x.setPolicy(kind, i));
            }
        });
        Sentences.promise(13, "Returns the policy before.", () -> {
            Shop x = new Shop();
            Check.is("at first", x.setPolicy(ORDER, RIGHT), NEITHER);
            Check.is("then", x.setPolicy(ORDER, RIGHT), RIGHT);
            Check.is("the same again", x.setPolicy(ORDER, NEITHER), RIGHT);
            Check.is("none of another kind", x.setPolicy(GONE, LEFT), NEITHER);
            Check.is("another object", new Shop().setPolicy(GONE, LEFT), NEITHER);
        });
        Sentences.promise(13, "Throws IllegalArgumentException if conflict is none of these, or policy is out of range", () -> {
            Shop x = new Shop();
            x.setPolicy(GONE, LEFT);
            Check.argument(x, "conflict -1", () -> x.setPolicy(-1, LEFT));
            Check.argument(x, "conflict 6", () -> x.setPolicy(6, LEFT));
            Check.argument(x, "LOST", () -> x.setPolicy(3, RIGHT));
            Check.argument(x, "policy -1", () -> x.setPolicy(GONE, -1));
            Check.argument(x, "policy 3", () -> x.setPolicy(GONE, 3));
            Check.argument(x, "both", () -> x.setPolicy(4, 3));
            Check.is("the policy stays", x.setPolicy(GONE, NEITHER), LEFT);
        });
    }

    private static void merge() {
        Sentences.promise(14, "Merges two trees over a base.", () -> {
            Shop x = new Shop();
            int base = Check.grow(x, "0.0(1.1 1.2)");
            x.set(1, 7);
            int left = x.seal();
            x.copy(base);
            x.drop(2);
            x.node(1, 0, 1, 5, NONE);
            int right = x.seal();
            x.begin(0, 9, NONE);
            bothWays(x, base, left, right, "", "0:0(1:7(3:5))");
            Check.tree("the base stays", x, base, "0:0(1:1 2:2)");
            Check.tree("the left one stays", x, left, "0:0(1:7 2:2)");
            Check.tree("the right one stays", x, right, "0:0(1:1(3:5))");
            Check.tree("the draft stays", x, x.seal(), "4:9");
        });
        Sentences.promise(14, "base: the number of the base", () -> {
            Shop x = alone();
            Check.indexes(x, "base", 0, 2, i -> x.merge(i, 0, 0));
            merged(x, 2, 0, 0, "", "0:0");
            merged(x, 0, 2, 0, "", "0:2");
        });
        Sentences.promise(14, "left: that of the left one", () -> {
            Shop x = alone();
            Check.indexes(x, "left", 0, 2, i -> x.merge(0, i, 0));
            x.setPolicy(VALUE, LEFT);
            merged(x, 0, 2, 1, "VALUE 0", "0:2");
        });
        Sentences.promise(14, "right: that of the right one", () -> {
            Shop x = alone();
            Check.indexes(x, "right", 0, 2, i -> x.merge(0, 0, i));
            x.setPolicy(VALUE, RIGHT);
            merged(x, 0, 1, 2, "VALUE 0", "0:2");
        });
        Sentences.promise(14, "Returns the number of the tree that comes of it.", () -> {
            Shop x = alone();
            for (int tree = 3; tree < 40; tree++) {
                Check.is("the number", x.merge(0, tree - 1, 0), tree);
            }
        });
        Sentences.promise(14, "Throws IndexOutOfBoundsException if there are no such trees", () -> {
            Shop x = new Shop();
            Check.index(x, "none at all", () -> x.merge(0, 0, 0));
            Check.grow(x, "0.0");
            Check.grow(x, "0.0");
            Check.index(x, "no base", () -> x.merge(2, 0, 1));
            Check.index(x, "no left one", () -> x.merge(0, 2, 1));
            Check.index(x, "no right one", () -> x.merge(0, 1, 2));
            Check.index(x, "none of them", () -> x.merge(-1, -1, -1));
            for (int tree = 2; tree < 40; tree++) {
                x.seal();
            }
            Check.index(x, "the index first", () -> x.merge(0, 0, 40));
        });
        Sentences.promise(14, "Throws IllegalStateException if the marks of their roots are unlike, or there are 40 trees", () -> {
            Shop x = alone();
            int other = Check.grow(x, "0.0");
            Check.state(x, "unlike", () -> x.merge(0, 1, other));
            Check.state(x, "unlike", () -> x.merge(0, other, 1));
            Check.state(x, "unlike", () -> x.merge(other, 0, 1));
            for (int tree = 4; tree < 39; tree++) {
                x.seal();
            }
            Check.is("the 40th", x.merge(0, 1, 2), 39);
            Check.is("its conflicts", Check.conflicts(x), "VALUE 0");
            Check.state(x, "one more", () -> x.merge(0, 0, 0));
            Check.is("the conflicts stay", Check.conflicts(x), "VALUE 0");
        });
    }

    /** Three trees of the root 0, which has the values 0, 1 and 2. */
    private static Shop alone() {
        Shop x = new Shop();
        x.begin(0, 0, NONE);
        for (int value = 0; value < 3; value++) {
            x.set(0, value);
            x.seal();
        }
        return x;
    }

    private static void conflicts() {
        Sentences.promise(31, "Returns how many conflicts the last merge had, be it of trees or versions; 0 if there was none.", () -> {
            Shop x = contested();
            Check.asked(x, "none yet", 0, x::conflicts);
            x.merge(0, 1, 2);
            Check.asked(x, "of the merge", 4, x::conflicts);
            Check.index(x, "a refused one does not count", () -> x.merge(0, 1, 40));
            x.find(0, 1);
            x.apply(0, 0);
            x.begin(0, 0, NONE);
            x.seal();
            Check.asked(x, "of the merge still", 4, x::conflicts);
            x.merge(0, 0, 1);
            Check.asked(x, "of another one, without", 0, x::conflicts);
            x.version(0, NONE, NONE);
            x.version(1, 0, NONE);
            x.version(2, 0, NONE);
            x.mergeVersions(1, 2);
            Check.asked(x, "of versions", 4, x::conflicts);
            x.takeBack(1, 3);
            Check.is("of one taken back", Check.conflicts(x), "VALUE 1, PLACE 1");
            x.mergeVersions(0, 1);
            Check.asked(x, "of versions, without", 0, x::conflicts);
        });
    }

    private static void conflictKinds() {
        Sentences.promise(32, "Returns the kind of a conflict of the last merge.", () -> {
            Shop x = contested();
            x.merge(0, 1, 2);
            Check.asked(x, "the first", GONE, () -> x.conflictKind(0));
            Check.asked(x, "the third", VALUE, () -> x.conflictKind(2));
            x.setPolicy(GONE, LEFT);
            Check.asked(x, "a policy set later changes none", GONE, () -> x.conflictKind(1));
        });
        Sentences.promise(32, "conflict: from 0, as they come about: those of GONE, VALUE and PLACE by rising marks, in this order"
                + " for each; then LOST and RING; then ORDER by the result in order", () -> {
            Shop x = new Shop();
            int base = Check.grow(x, "0.0(1.1(1.2 1.3 1.4) 1.5(1.6 1.7 1.8) 1.9 1.10(1.11) 1.12)");
            x.set(12, 1);
            x.move(12, 1, 3);
            x.move(4, 1, 0);
            x.move(8, 5, 0);
            x.drop(10);
            x.set(9, 1);
            x.move(5, 0, 0);
            int left = x.seal();
            x.copy(base);
            x.set(12, 2);
            x.move(12, 5, 3);
            x.move(3, 1, 0);
            x.move(7, 5, 0);
            x.set(11, 3);
            x.set(9, 2);
            int right = x.seal();
            bothWays(x, base, left, right, "VALUE 9, GONE 11, VALUE 12, PLACE 12, LOST 10, ORDER 5, ORDER 1",
                    "0:0(5:5(6:6 7:7 8:8) 1:1(2:2 3:3 4:4) 9:9 10:10(11:3) 12:12)");
            Check.asked(x, "VALUE", VALUE, () -> x.conflictKind(2));
            Check.asked(x, "PLACE", PLACE, () -> x.conflictKind(3));
            Check.asked(x, "ORDER", ORDER, () -> x.conflictKind(6));
        });
        Sentences.promise(32, "Returns GONE to ORDER.", MergeSentences::mostConflicts);
        Sentences.promise(32, "Throws IndexOutOfBoundsException if there is no such conflict", () -> {
            Shop x = contested();
            Check.indexes(x, "conflict", 0, -1, x::conflictKind);
            x.merge(0, 1, 2);
            Check.indexes(x, "conflict", 0, 3, x::conflictKind);
            x.merge(0, 0, 0);
            Check.indexes(x, "conflict", 0, -1, x::conflictKind);
        });
    }

    /** All marks but the root are lost, or in a ring, or both. */
    private static void mostConflicts() {
        Shop x = new Shop();
        int root = Check.grow(x, "0.0(1.1)");
        int tree = root;
        for (int first = 2; first < 300; first += 22) {
            x.copy(root);
            int up = 0;
            for (int mark = first; mark < Math.min(first + 22, 300); mark++) {
                up = x.node(up, up == 0 ? 1 : 0, 1, mark % 100, NONE);
            }
            tree = x.merge(root, tree, x.seal());
        }
        x.copy(tree);
        for (int first = 24; first < 300; first += 22) {
            x.move(first, first - 1, 0);
        }
        int base = x.seal();
        x.drop(3);
        x.move(2, 1, 0);
        int left = x.seal();
        x.copy(base);
        x.move(1, 299, 0);
        int right = x.seal();
        x.setPolicy(GONE, LEFT);
        Check.is("it is the base again", x.areSame(x.merge(base, left, right), base), true);
        Check.is("conflicts", x.conflicts(), 1 + 297 + 299);
        for (int i = 0; i < 597; i++) {
            Check.is("kind of " + i, x.conflictKind(i), i == 0 ? GONE : i < 298 ? TwigPatch.LOST : TwigPatch.RING);
            Check.is("mark of " + i, x.conflictMark(i), i == 0 ? 299 : i < 298 ? 300 - i : i - 297);
        }
        Check.index(x, "no more", () -> x.conflictKind(597));
        Check.index(x, "no more", () -> x.conflictMark(597));
    }

    private static void conflictMarks() {
        Sentences.promise(33, "Returns the mark of a conflict of the last merge.", () -> {
            Shop x = contested();
            x.merge(0, 1, 2);
            Check.asked(x, "of the first", 1, () -> x.conflictMark(0));
            Check.asked(x, "of the last", 3, () -> x.conflictMark(3));
        });
        Sentences.promise(33, "conflict: from 0", () -> {
            Shop x = alone();
            x.merge(0, 1, 2);
            Check.indexes(x, "conflict", 0, 0, x::conflictMark);
            Check.is("mark 0 is one", x.conflictMark(0), 0);
        });
        Sentences.promise(33, "Returns the mark.", () -> {
            Shop x = new Shop();
            Check.begun(x, 298);
            int base = Check.grow(x, "0.0(1.1)");
            x.set(299, 2);
            int left = x.seal();
            x.set(299, 3);
            merged(x, base, left, x.seal(), "VALUE 299", "298:0(299:1)");
            Check.is("the last of all", x.conflictMark(0), 299);
        });
        Sentences.promise(33, "Throws IndexOutOfBoundsException if there is no such conflict", () -> {
            Shop x = contested();
            Check.indexes(x, "conflict", 0, -1, x::conflictMark);
            x.merge(0, 1, 2);
            Check.indexes(x, "conflict", 0, 3, x::conflictMark);
            x.merge(0, 0, 0);
            Check.indexes(x, "conflict", 0, -1, x::conflictMark);
        });
    }
}
