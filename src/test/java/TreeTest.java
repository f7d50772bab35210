/** Promises 18 to 24: trees as they are. */
public final class TreeTest {
    private static final int NONE = TwigPatch.NONE;

    public static void main(String[] args) {
        counts();
        tells();
        tellsAlike();
        tellsAlikeWithoutOrder();
        tellsSame();
        Check.end();
    }

    private static void counts() {
        Shop x = new Shop();
        Check.is("trees", x.trees(), 0);
        int one = Check.grow(x, "0.0");
        Check.is("trees", x.trees(), 1);
        int two = Check.grow(x, "0.0(1.1(1.2) 1.3)");
        Check.is("trees", x.trees(), 2);
        Check.is("size", x.size(one), 1);
        Check.is("size", x.size(two), 4);
        Check.index(x, "size(-1)", () -> x.size(-1));
        Check.index(x, "size(2)", () -> x.size(2));
        x.find(two, one);
        x.apply(0, two);
        Check.is("an applied script makes a tree", x.trees(), 3);
        x.merge(two, two, two);
        Check.is("a merge makes a tree", x.trees(), 4);
    }

    private static void tells() {
        Shop x = new Shop();
        int one = Check.grow(x, "0.9(1.1(1.2) 4.3(1.4 1.5))");
        Check.draft(x, "0.0(1.7)");
        int[] order = {0, 1, 2, 3, 4, 5};
        for (int place = 0; place < order.length; place++) {
            Check.is("markAt " + place, x.markAt(one, place), order[place]);
        }
        x.copy(one);
        x.move(1, 0, 1);
        int two = x.seal();
        int[] turned = {0, 3, 4, 5, 1, 2};
        for (int place = 0; place < turned.length; place++) {
            Check.is("markAt " + place, x.markAt(two, place), turned[place]);
        }
        Check.index(x, "place -1", () -> x.markAt(one, -1));
        Check.index(x, "place 6", () -> x.markAt(one, 6));
        Check.index(x, "tree 2", () -> x.markAt(2, 0));
        Check.index(x, "tree -1", () -> x.markAt(-1, 0));
        Check.is("value of the root", x.value(one, 0), 9);
        Check.is("value", x.value(one, 5), 5);
        Check.is("value of a mark elsewhere", x.value(one, 7), NONE);
        Check.index(x, "value of no mark", () -> x.value(one, 8));
        Check.index(x, "value of -1", () -> x.value(one, -1));
        Check.index(x, "value in no tree", () -> x.value(2, 0));
        Check.is("parent of the root", x.parent(one, 0), NONE);
        Check.is("parent", x.parent(one, 2), 1);
        Check.is("parent", x.parent(one, 5), 3);
        Check.is("parent of a mark elsewhere", x.parent(one, 7), NONE);
        Check.index(x, "parent of no mark", () -> x.parent(one, 8));
        Check.index(x, "parent of -1", () -> x.parent(one, -1));
        Check.index(x, "parent in no tree", () -> x.parent(-1, 0));
    }

    private static void alike(String one, String two, boolean due) {
        Shop x = new Shop();
        int a = Check.grow(x, one);
        int b = Check.grow(x, two);
        Check.is(one + " alike " + two, x.areAlike(a, b), due);
        Check.is(two + " alike " + one, x.areAlike(b, a), due);
        Check.is(one + " alike itself", x.areAlike(a, a), true);
        Check.is("but not the same", x.areSame(a, b), false);
    }

    private static void tellsAlike() {
        alike("0.1", "0.1", true);
        alike("0.1#5", "0.1#5", true);
        alike("0.1", "1.1", false);
        alike("0.1", "0.2", false);
        alike("0.1", "0.1#0", false);
        alike("0.1#1", "0.1#0", false);
        alike("0.1(1.1 1.2)", "0.1(1.1 1.2)", true);
        alike("0.1(1.1 1.2)", "0.1(1.2 1.1)", false);
        alike("3.1(1.1 1.2)", "3.1(1.2 1.1)", false);
        alike("0.1(1.1 1.1)", "0.1(1.1)", false);
        alike("0.1(1.1(1.1))", "0.1(1.1 1.1)", false);
        alike("0.1(1.1(1.2) 1.1)", "0.1(1.1 1.1(1.2))", false);
        Shop x = new Shop();
        Check.grow(x, "0.1");
        Check.index(x, "areAlike(0, 1)", () -> x.areAlike(0, 1));
        Check.index(x, "areAlike(1, 0)", () -> x.areAlike(1, 0));
        Check.index(x, "areAlike(0, -1)", () -> x.areAlike(0, -1));
    }

    private static void tellsAlikeWithoutOrder() {
        alike("4.1(1.1 1.2)", "4.1(1.2 1.1)", true);
        alike("5.1(1.1 1.2 1.3)", "5.1(1.3 1.1 1.2)", true);
        alike("4.1(1.1 1.1 1.2)", "4.1(1.1 1.2 1.2)", false);
        alike("4.1(1.1 1.2)", "5.1(1.1 1.2)", false);
        alike("4.1(1.1(1.2 1.3) 1.1)", "4.1(1.1 1.1(1.2 1.3))", true);
        alike("4.1(1.1(1.2 1.3) 1.1)", "4.1(1.1 1.1(1.3 1.2))", false);
        alike("4.1(5.1(1.2 1.3) 5.1(1.4))", "4.1(5.1(1.4) 5.1(1.3 1.2))", true);
        alike("0.1(4.1(1.2 1.3) 4.1(1.4))", "0.1(4.1(1.4) 4.1(1.2 1.3))", false);
    }

    private static void tellsSame() {
        Shop x = new Shop();
        int one = Check.grow(x, "0.1(1.2 1.3(1.4))");
        x.copy(one);
        Check.is("a copy", x.areSame(one, x.seal()), true);
        x.set(2, 9);
        Check.is("another value", x.areSame(one, x.seal()), false);
        x.set(2, 3);
        Check.is("the value as before", x.areSame(one, x.seal()), true);
        x.move(1, 0, 1);
        Check.is("another order", x.areSame(one, x.seal()), false);
        x.move(1, 0, 0);
        x.move(3, 1, 0);
        Check.is("another parent", x.areSame(one, x.seal()), false);
        x.move(3, 0, 2);
        Check.is("another parent, the same order of all", x.areSame(one, x.seal()), false);
        x.copy(one);
        x.drop(3);
        Check.is("a mark less", x.areSame(one, x.seal()), false);
        x.node(2, 0, 1, 4, NONE);
        int other = x.seal();
        Check.is("another mark", x.areSame(one, other), false);
        Check.is("though alike", x.areAlike(one, other), true);
        Check.index(x, "areSame(0, 99)", () -> x.areSame(0, 99));
        Check.index(x, "areSame(99, 0)", () -> x.areSame(99, 0));
        Check.index(x, "areSame(-1, 0)", () -> x.areSame(-1, 0));
    }
}
