/** The limits that the document sets, and trees that have grown as large and as deep as they can. */
public final class LimitTest {
    private static final int NONE = TwigPatch.NONE;

    public static void main(String[] args) {
        fullDraft();
        marks();
        steps();
        wide();
        deep();
        deepAndAlike();
        manyConflicts();
        Check.end();
    }

    private static void fullDraft() {
        Shop x = new Shop();
        x.begin(0, 0, NONE);
        for (int i = 1; i < 24; i++) {
            Check.is("node", x.node(0, 0, 1, 0, NONE), i);
        }
        Check.state(x, "24 nodes", () -> x.node(0, 0, 1, 0, NONE));
        Check.argument(x, "the argument first", () -> x.node(0, 0, 1, 100, NONE));
        Check.index(x, "the index first", () -> x.node(0, 24, 1, 0, NONE));
        x.drop(1);
        Check.is("room for one", x.node(0, 0, 1, 0, NONE), 24);
        Check.is("the size", x.size(x.seal()), 24);
    }

    private static void marks() {
        Shop x = new Shop();
        for (int i = 0; i < 299; i++) {
            Check.is("begin", x.begin(0, 0, NONE), i);
        }
        Check.is("the last mark", x.node(298, 0, 1, 5, 6), 299);
        Check.state(x, "300 marks", () -> x.begin(0, 0, NONE));
        Check.state(x, "300 marks", () -> x.node(298, 0, 0, 0, NONE));
        Check.argument(x, "the argument first", () -> x.begin(6, 0, NONE));
        Check.argument(x, "the argument first", () -> x.node(298, 0, 6, 0, NONE));
        Check.index(x, "the index first", () -> x.node(297, 0, 0, 0, NONE));
        Check.tree("the draft is there still", x, x.seal(), "298:0(299:5)");
        Check.is("no node of that mark", x.value(0, 297), NONE);
        Check.index(x, "mark 300", () -> x.value(0, 300));
    }

    /** A tree of a root and as many nodes as are asked for, in merged bunches of 23. */
    private static int bunch(Shop x, int root, int nodes, int kind, int identity) {
        int tree = root;
        for (int left = nodes; left > 0; left -= 23) {
            x.copy(root);
            for (int i = 0; i < Math.min(23, left); i++) {
                x.node(x.markAt(root, 0), i, kind, i, identity);
            }
            tree = x.merge(root, tree, x.seal());
        }
        return tree;
    }

    private static void steps() {
        Shop x = new Shop();
        int root = Check.grow(x, "0.0");
        int hundred = bunch(x, root, 100, 1, NONE);
        Check.is("its size", x.size(hundred), 101);
        int script = x.find(root, hundred);
        Check.is("100 steps", x.steps(script), 100);
        int there = x.apply(script, root);
        Check.is("the same", x.areSame(there, hundred), true);
        int back = x.find(hundred, root);
        Check.is("100 steps", x.steps(back), 100);
        Check.is("the same", x.areSame(x.apply(back, hundred), root), true);
        x.copy(hundred);
        Check.state(x, "a copy of more than 24", () -> x.node(0, 0, 0, 0, NONE));
        x.set(0, 1);
        int more = x.seal();
        Check.state(x, "101 steps", () -> x.find(root, more));
        Check.state(x, "101 steps", () -> x.find(more, root));
        Check.is("no script was made", x.find(root, root), 2);
    }

    private static void wide() {
        Shop x = new Shop();
        int root = Check.grow(x, "0.0");
        int all = bunch(x, root, 299, 2, NONE);
        Check.is("300 marks in one tree", x.size(all), 300);
        Check.is("the last one in order is the last one of the first bunch", x.markAt(all, 299), 23);
        x.copy(all);
        x.move(1, 0, 298);
        int turned = x.seal();
        Check.is("the last one", x.markAt(turned, 299), 1);
        Check.is("likeness", x.likeness(all, turned, 0, 0), 1f);
        int script = x.find(all, turned);
        Check.is("a move", x.steps(script), 1);
        Check.is("it is the same", x.areSame(x.apply(script, all), turned), true);
        Check.is("alike itself", x.areAlike(all, all), true);
        Check.is("not alike", x.areAlike(all, turned), false);
        Check.is("merged", x.areSame(x.merge(all, turned, all), turned), true);
    }

    private static void deep() {
        Shop x = new Shop();
        int root = Check.grow(x, "0.0");
        int tree = root;
        int last = 0;
        for (int bunch = 0; bunch < 12; bunch++) {
            x.copy(root);
            int top = last;
            int first = NONE;
            for (int i = 0; i < 23; i++) {
                int mark = x.node(i == 0 ? 0 : last, 0, i % 6, 1, NONE);
                first = i == 0 ? mark : first;
                last = mark;
            }
            tree = x.merge(root, tree, x.seal());
            x.copy(tree);
            x.move(first, top, 0);
            tree = x.seal();
        }
        Check.is("a tree of 277", x.size(tree), 277);
        Check.is("as deep as that", x.parent(tree, 276), 275);
        Check.is("alike itself", x.areAlike(tree, tree), true);
        Check.is("merged", x.areSame(x.merge(tree, tree, tree), tree), true);
        x.copy(tree);
        int chain = tree;
        Check.state(x, "below itself", () -> x.move(1, 276, 0));
        Check.is("dropped", x.drop(1), 276);
        x.copy(tree);
        x.move(200, 0, 1);
        int cut = x.seal();
        Check.is("a move", x.steps(x.find(chain, cut)), 1);
        Check.is("it is the same", x.areSame(x.apply(0, chain), cut), true);
        Check.is("likeness", x.likeness(chain, cut, 1, 1), 2f * 198 / (275 + 198));
    }

    /** Two chains of new marks in merged trees, so deep that recursion would have to go far. */
    private static void deepAndAlike() {
        Shop x = new Shop();
        int one = chain(x, 6);
        int two = chain(x, 6);
        Check.is("the sizes", x.size(one), x.size(two));
        Check.is("alike", x.areAlike(one, two), true);
        int deepest = x.markAt(one, x.size(one) - 1);
        Check.is("matched", x.match(one, two, deepest), x.markAt(two, x.size(two) - 1));
        Check.is("no step", x.steps(x.find(one, two)), 0);
    }

    private static int chain(Shop x, int bunches) {
        int mark = x.begin(4, 0, NONE);
        int root = x.seal();
        int tree = root;
        int last = mark;
        for (int bunch = 0; bunch < bunches; bunch++) {
            x.copy(root);
            int top = last;
            int first = x.node(mark, 0, 4, 1, NONE);
            last = first;
            for (int i = 1; i < 23; i++) {
                last = x.node(last, 0, i % 2 == 0 ? 4 : 0, 1, NONE);
            }
            tree = x.merge(root, tree, x.seal());
            x.copy(tree);
            x.move(first, top, 0);
            tree = x.seal();
        }
        return tree;
    }

    private static void manyConflicts() {
        Shop x = new Shop();
        int root = Check.grow(x, "0.0");
        int base = bunch(x, root, 138, 1, NONE);
        x.copy(base);
        for (int mark = 1; mark < 80; mark++) {
            x.set(mark, 50);
        }
        int left = x.seal();
        for (int mark = 1; mark < 80; mark++) {
            x.set(mark, 51);
        }
        x.merge(base, left, x.seal());
        Check.is("a conflict each", x.conflicts(), 79);
        for (int i = 0; i < 79; i++) {
            Check.is("the mark", x.conflictMark(i), i + 1);
            Check.is("the kind", x.conflictKind(i), TwigPatch.VALUE);
        }
    }
}
