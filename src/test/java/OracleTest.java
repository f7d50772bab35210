import java.util.function.Supplier;
import java.util.regex.Pattern;

/** Random runs, the same each time, in which the program and the model have to answer alike. */
public final class OracleTest {
    private static final int RUNS = 1500;
    private static final int ROUNDS = 30;
    /** Beyond these, a run makes no more rounds, so that there are calls left for questions. */
    private static final int MANY_CHANGES = 350;
    private static final int REFUSALS = 20;
    private static final Pattern CHANGING = Pattern.compile(
            "(begin|copy|node|set|move|drop|seal|find|turn|apply|setPolicy|merge|version|mergeVersions|takeBack)\\(.*");

    private long seed;
    private Shop x;
    private Model m;
    private int run;
    private int wrong;
    private int refused;
    private final StringBuilder log = new StringBuilder();

    public static void main(String[] args) {
        int runs = args.length > 0 ? Integer.parseInt(args[0]) : RUNS;
        OracleTest test = new OracleTest();
        for (int run = 0; run < runs && test.wrong < 3; run++) {
            test.play(run);
        }
        Check.end(test.wrong);
    }

    private int below(int bound) {
        seed = seed * 6364136223846793005L + 1442695040888963407L;
        return (int) ((seed >>> 33) % bound);
    }

    private boolean sometimes(int oneIn) {
        return below(oneIn) == 0;
    }

    private static String answer(Supplier<Object> call) {
        try {
            return String.valueOf(call.get());
        } catch (IndexOutOfBoundsException e) {
            return e.getClass() == IndexOutOfBoundsException.class ? "index" : e.toString();
        } catch (IllegalArgumentException e) {
            return "argument";
        } catch (IllegalStateException e) {
            return "state";
        } catch (RuntimeException e) {
            return e.toString();
        }
    }

    private String both(String call, Supplier<Object> ours, Supplier<Object> due) {
        String got = answer(ours);
        String want = answer(due);
        log.append(call).append(" => ").append(want).append('\n');
        if (!got.equals(want)) {
            wrong++;
            System.out.println("run " + run + ": " + call + " answered " + got + ", due is " + want);
            if (wrong == 1) {
                System.out.println(log);
            }
        }
        if (want.matches("[a-z]+") && !want.matches("true|false")) {
            seeThatNothingChanged(call, ours);
        }
        return want;
    }

    /** Some of the refused calls are made once more, to see that they change nothing. */
    private void seeThatNothingChanged(String call, Supplier<Object> ours) {
        if (x.changes() > MANY_CHANGES || !CHANGING.matcher(call).matches()) {
            return;
        }
        refused++;
        String difference = refused % REFUSALS == 0 ? x.difference(ours) : "";
        if (!difference.isEmpty()) {
            wrong++;
            System.out.println("run " + run + ": after " + call + ", which was refused, " + difference);
        }
    }

    private void play(int number) {
        run = number;
        seed = number * 7919L + 17;
        below(2);
        x = new Shop();
        m = new Model();
        log.setLength(0);
        int style = below(4);
        if (sometimes(3)) {
            anyCall(style);
        }
        for (int i = 0; i < ROUNDS && wrong == 0 && m.trees.size() < 40 && x.changes() < MANY_CHANGES; i++) {
            if (m.trees.isEmpty() || sometimes(12)) {
                growNew(style);
            } else if (sometimes(6)) {
                growLikeness(style);
            } else {
                edit(style);
            }
            useTrees();
            if (sometimes(4)) {
                anyCall(style);
            }
        }
        for (int i = 0; i < 20 && wrong == 0; i++) {
            anyCall(style);
        }
        if (wrong == 0) {
            askAll();
        }
    }

    /** A tree of new marks that is much like another one, so that there is something to match. */
    private void growLikeness(int style) {
        Model.Node like = m.trees.get(below(m.trees.size()));
        Model.Node root = like;
        begin(m.kind(root.mark), below(3), m.identity(root.mark));
        java.util.Map<Model.Node, Integer> twins = new java.util.IdentityHashMap<>();
        twins.put(root, m.draft.mark);
        for (Model.Node node : Model.below(like)) {
            Integer up = twins.get(node.up);
            up = up == null || sometimes(12) ? Integer.valueOf(draftMark()) : up;
            Model.Node parent = Model.seek(m.draft, up);
            if (parent == null || sometimes(8)) {
                continue;
            }
            int place = sometimes(5) ? below(parent.kids.size() + 1) : parent.kids.size();
            int k = sometimes(25) ? kind() : m.kind(node.mark);
            int v = sometimes(6) ? below(3) : node.value;
            int id = sometimes(25) ? identity(style) : m.identity(node.mark);
            int p = up;
            if (!node(p, place, k, v, id).matches("[a-z]+")) {
                twins.put(node, m.marks.size() - 1);
            }
        }
        seal();
    }

    private String node(int p, int place, int k, int v, int id) {
        return both("node(" + p + ", " + place + ", " + k + ", " + v + ", " + id + ")",
                () -> x.node(p, place, k, v, id), () -> m.node(p, place, k, v, id));
    }

    private void edit(int style) {
        int t = sometimes(2) ? below(m.trees.size()) : below(Math.min(3, m.trees.size()));
        both("copy(" + t + ")", () -> x.copy(t), () -> m.copy(t));
        int edits = 1 + below(style == 1 ? 3 : 7);
        for (int i = 0; i < edits; i++) {
            int choice = below(10);
            if (choice < 2) {
                addNode(style);
            } else if (choice < 4) {
                setOne();
            } else if (choice < 5) {
                dropOne();
            } else if (choice < 8) {
                moveAmongSiblings();
            } else {
                moveOne();
            }
        }
        seal();
        int from = below(Math.max(1, m.versions.size()));
        int first = m.versions.isEmpty() ? -1 : from;
        int second = sometimes(4) ? versionNumber() : -1;
        int tree = m.trees.size() - 1;
        both("version(" + tree + ", " + first + ", " + second + ")", () -> x.version(tree, first, second),
                () -> m.version(tree, first, second));
    }

    private void moveAmongSiblings() {
        Model.Node node = Model.seek(m.draft, draftMark());
        if (node == null || node.up == null) {
            return;
        }
        int mark = node.mark;
        int up = node.up.mark;
        int place = below(node.up.kids.size());
        both("move(" + mark + ", " + up + ", " + place + ")", () -> x.move(mark, up, place),
                () -> m.move(mark, up, place));
    }

    private void setOne() {
        int mark = draftMark();
        int v = sometimes(50) ? below(2) * 101 - 1 : below(3);
        both("set(" + mark + ", " + v + ")", () -> x.set(mark, v), () -> m.set(mark, v));
    }

    private void dropOne() {
        int mark = draftMark();
        Model.Node node = Model.seek(m.draft, mark);
        if (node == null || Model.order(node).size() < 5 || sometimes(10)) {
            both("drop(" + mark + ")", () -> x.drop(mark), () -> m.drop(mark));
        }
    }

    private void useTrees() {
        int last = m.trees.size() - 1;
        if (sometimes(3)) {
            scriptCall(below(4));
            scriptCall(6);
        }
        if (sometimes(2)) {
            scriptCall(below(19));
        }
        if (m.trees.size() > 2 && sometimes(2)) {
            mergeLike(sometimes(2) ? 0 : below(last + 1), sometimes(2) ? last : below(last + 1), below(last + 1));
        }
        if (sometimes(3)) {
            mergeCall(below(3));
        }
        if (sometimes(3)) {
            mergeCall(20 + below(10));
        }
    }

    /** Merges both ways round, mostly over a tree with the same root. */
    private void mergeLike(int base, int left, int right) {
        int root = m.trees.get(base).mark;
        if (m.trees.get(left).mark != root || m.trees.get(right).mark != root) {
            return;
        }
        askMerge(both("merge(" + base + ", " + left + ", " + right + ")", () -> x.merge(base, left, right),
                () -> m.merge(base, left, right)));
        if (sometimes(4)) {
            askMerge(both("merge(" + base + ", " + right + ", " + left + ")", () -> x.merge(base, right, left),
                    () -> m.merge(base, right, left)));
        }
    }

    private int kind() {
        return below(5) == 0 ? 4 + below(2) : below(3);
    }

    private int identity(int style) {
        return style == 1 || !sometimes(5) ? -1 : below(4);
    }

    private int draftMark() {
        if (sometimes(40) || m.draft == null) {
            return below(m.marks.size() + 2) - 1;
        }
        java.util.List<Model.Node> all = Model.order(m.draft);
        return all.get(below(all.size())).mark;
    }

    private void growNew(int style) {
        int k = style == 3 ? below(6) : 0;
        begin(k, below(3), -1);
        int nodes = below(style == 2 ? 30 : 12);
        for (int i = 0; i < nodes; i++) {
            addNode(style);
        }
        seal();
    }

    private void begin(int k, int v, int id) {
        both("begin(" + k + ", " + v + ", " + id + ")", () -> x.begin(k, v, id), () -> m.begin(k, v, id));
    }

    private void addNode(int style) {
        int p = draftMark();
        Model.Node node = Model.seek(m.draft, p);
        int place = sometimes(40) ? below(9) - 3 : node == null ? 0 : below(node.kids.size() + 1);
        int k = sometimes(60) ? 6 : kind();
        int v = sometimes(60) ? 100 : below(3);
        int id = sometimes(60) ? below(2) * 102 - 2 : identity(style);
        node(p, place, k, v, id);
    }

    private void seal() {
        String got = both("seal()", () -> x.seal(), () -> m.seal());
        if (!got.equals("state")) {
            askTree(m.trees.size() - 1);
        }
    }

    private int tree() {
        int n = m.trees.size();
        return sometimes(40) ? below(n + 3) - 1 : below(n + 1) == 0 ? 0 : n - 1 - below(Math.max(1, Math.min(n, 6)));
    }

    private int script() {
        int n = m.scripts.size();
        return sometimes(40) ? below(n + 3) - 1 : n == 0 ? 0 : n - 1 - below(Math.min(n, 4));
    }

    private int versionNumber() {
        int n = m.versions.size();
        return sometimes(30) ? below(n + 3) - 1 : n == 0 ? 0 : n - 1 - below(Math.min(n, 6));
    }

    private void anyCall(int style) {
        int choice = below(100);
        if (choice < 12) {
            addNode(style);
        } else if (choice < 20) {
            setOne();
        } else if (choice < 34) {
            moveOne();
        } else if (choice < 39) {
            int mark = draftMark();
            both("drop(" + mark + ")", () -> x.drop(mark), () -> m.drop(mark));
        } else if (choice < 45) {
            seal();
        } else if (choice < 51) {
            int t = tree();
            both("copy(" + t + ")", () -> x.copy(t), () -> m.copy(t));
            for (int i = 0; i < 4; i++) {
                moveOne();
            }
        } else if (choice < 70) {
            scriptCall(choice - 51);
        } else {
            mergeCall(choice - 70);
        }
    }

    private void moveOne() {
        int mark = draftMark();
        int p = draftMark();
        Model.Node node = Model.seek(m.draft, p);
        int place = sometimes(40) ? below(9) - 3 : node == null ? 0 : below(node.kids.size() + 1);
        both("move(" + mark + ", " + p + ", " + place + ")", () -> x.move(mark, p, place),
                () -> m.move(mark, p, place));
    }

    private void scriptCall(int choice) {
        int a = tree();
        int b = tree();
        int s = script();
        if (choice < 4) {
            if (!both("find(" + a + ", " + b + ")", () -> x.find(a, b), () -> m.find(a, b)).matches("[a-z]+")) {
                askScript(m.scripts.size() - 1);
            }
        } else if (choice < 6) {
            if (!both("turn(" + s + ")", () -> x.turn(s), () -> m.turn(s)).matches("[a-z]+")) {
                askScript(m.scripts.size() - 1);
            }
        } else if (choice < 11) {
            if (!both("apply(" + s + ", " + a + ")", () -> x.apply(s, a), () -> m.apply(s, a)).matches("[a-z]+")) {
                askTree(m.trees.size() - 1);
            }
            both("fuzz()", () -> x.fuzz(), () -> m.fuzz);
        } else {
            askPair(a, b);
        }
    }

    private void mergeCall(int choice) {
        int a = tree();
        int b = tree();
        int c = tree();
        int v = sometimes(25) ? -1 : versionNumber();
        int w = versionNumber();
        if (choice < 3) {
            int kind = below(8) - 1;
            int policy = sometimes(9) ? below(6) - 2 : below(3);
            both("setPolicy(" + kind + ", " + policy + ")", () -> x.setPolicy(kind, policy),
                    () -> m.setPolicy(kind, policy));
        } else if (choice < 15) {
            String got = both("merge(" + a + ", " + b + ", " + c + ")", () -> x.merge(a, b, c), () -> m.merge(a, b, c));
            askMerge(got);
        } else if (choice < 20) {
            both("version(" + a + ", " + v + ", " + w + ")", () -> x.version(a, v, w), () -> m.version(a, v, w));
        } else if (choice < 23) {
            askMergeVersions(likely(v, w), w);
        } else if (choice < 26) {
            askTakeBack(earlier(v, w), w);
        } else {
            askHistory(v, w);
        }
    }

    /** A version whose tree has the same root as that of another one, if there is one at hand. */
    private int likely(int version, int like) {
        int v = version;
        for (int i = 0; i < 8 && like >= 0 && like < m.versions.size() && !m.versions.isEmpty(); i++) {
            if (v >= 0 && v < m.versions.size() && v != like && root(v) == root(like)) {
                return v;
            }
            v = versionNumber();
        }
        return v;
    }

    private int root(int version) {
        return m.trees.get(m.versions.get(version)[0]).mark;
    }

    private int earlier(int version, int head) {
        if (head < 0 || head >= m.versions.size() || m.past(head).isEmpty() || sometimes(6)) {
            return version;
        }
        Integer[] past = m.past(head).toArray(new Integer[0]);
        return likely(past[below(past.length)], head);
    }

    private void askMergeVersions(int v, int w) {
        askMerge(both("mergeVersions(" + v + ", " + w + ")", () -> x.mergeVersions(v, w),
                () -> m.mergeVersions(v, w)));
    }

    private void askTakeBack(int v, int w) {
        askMerge(both("takeBack(" + v + ", " + w + ")", () -> x.takeBack(v, w), () -> m.takeBack(v, w)));
    }

    // ---- questions

    private void askTree(int t) {
        both("size(" + t + ")", () -> x.size(t), () -> m.size(t));
        for (int i = -1; i <= m.size(t); i++) {
            int place = i;
            both("markAt(" + t + ", " + i + ")", () -> x.markAt(t, place), () -> m.markAt(t, place));
        }
        for (int i = -1; i <= m.marks.size(); i++) {
            int mark = i;
            both("value(" + t + ", " + i + ")", () -> x.value(t, mark), () -> m.value(t, mark));
            both("parent(" + t + ", " + i + ")", () -> x.parent(t, mark), () -> m.parent(t, mark));
        }
    }

    private void askPair(int a, int b) {
        both("areAlike(" + a + ", " + b + ")", () -> x.areAlike(a, b), () -> m.areAlike(a, b));
        both("areSame(" + a + ", " + b + ")", () -> x.areSame(a, b), () -> m.areSame(a, b));
        for (int i = -1; i <= m.marks.size(); i++) {
            int mark = i;
            both("match(" + a + ", " + b + ", " + i + ")", () -> x.match(a, b, mark), () -> m.match(a, b, mark));
        }
        for (int i = 0; i < 20; i++) {
            int mark = below(m.marks.size() + 2) - 1;
            int other = below(m.marks.size() + 2) - 1;
            both("likeness(" + a + ", " + b + ", " + mark + ", " + other + ")",
                    () -> x.likeness(a, b, mark, other), () -> m.likeness(a, b, mark, other));
        }
    }

    private void askScript(int s) {
        both("steps(" + s + ")", () -> x.steps(s), () -> m.script(s).size());
        for (int i = -1; i <= m.script(s).size(); i++) {
            int step = i;
            both("stepKind(" + s + ", " + i + ")", () -> x.stepKind(s, step), () -> m.stepKind(s, step));
            both("stepMark(" + s + ", " + i + ")", () -> x.stepMark(s, step), () -> m.step(s, step).mark);
            both("stepTo(" + s + ", " + i + ", true)", () -> x.stepTo(s, step, true), () -> m.stepTo(s, step, true));
            both("stepTo(" + s + ", " + i + ", false)", () -> x.stepTo(s, step, false), () -> m.stepTo(s, step, false));
        }
    }

    private void askMerge(String got) {
        both("conflicts()", () -> x.conflicts(), () -> m.conflicts.size());
        for (int i = -1; i <= m.conflicts.size(); i++) {
            int c = i;
            both("conflictKind(" + i + ")", () -> x.conflictKind(c), () -> m.conflict(c, 0));
            both("conflictMark(" + i + ")", () -> x.conflictMark(c), () -> m.conflict(c, 1));
        }
        if (!got.matches("[a-z]+")) {
            askTree(m.trees.size() - 1);
        }
    }

    private void askHistory(int v, int w) {
        both("versions()", () -> x.versions(), () -> m.versions.size());
        both("treeOf(" + v + ")", () -> x.treeOf(v), () -> m.versionAt(v)[0]);
        for (int i = -1; i <= m.marks.size(); i++) {
            int mark = i;
            both("touched(" + v + ", " + i + ")", () -> x.touched(v, mark), () -> m.touched(v, mark));
        }
        int from = sometimes(2) ? 0 : w;
        for (int i = 0; i < 6; i++) {
            int k = below(7);
            int value = sometimes(20) ? -1 : below(4);
            both("look(" + from + ", " + v + ", " + k + ", " + value + ")", () -> x.look(from, v, k, value),
                    () -> m.look(from, v, k, value));
        }
    }

    private void askAll() {
        both("trees()", () -> x.trees(), () -> m.trees.size());
        for (int t = 0; t < m.trees.size(); t++) {
            askTree(t);
        }
        for (int s = 0; s < m.scripts.size(); s++) {
            askScript(s);
        }
        for (int v = 0; v < m.versions.size(); v++) {
            askHistory(v, below(m.versions.size()));
        }
    }
}
