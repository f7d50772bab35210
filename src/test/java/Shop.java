import java.util.ArrayList;
import java.util.List;
import java.util.Objects;
import java.util.function.Function;
import java.util.function.Supplier;

/**
 * A TwigPatch as the tests use it: it keeps to the 512 calls for which the document promises
 * anything. The calls that changed something are kept, so that another object can be brought to
 * where this one is when its calls run out, and so that an object to which one more call came can
 * be compared with one to which it did not.
 */
final class Shop {
    static final int MOST_CALLS = 512;
    private static final int NONE = TwigPatch.NONE;

    private record Told(Function<TwigPatch, Object> call, Object answer) {
    }

    /** A question, or a call that shows something by what it answers. */
    private record Probe(String name, Function<TwigPatch, Object> call) {
    }

    /** Probes that go to as many objects as it takes, each of which has the opening call ahead of them. */
    private record Group(Probe opening, List<Probe> probes) {
    }

    private final List<Told> told = new ArrayList<>();
    private TwigPatch x = new TwigPatch();
    private int calls;
    private int marks;
    private boolean isTrial;
    private List<String> portrait;

    // ---- the face

    int begin(int kind, int value, int identity) {
        int mark = change(y -> y.begin(kind, value, identity));
        marks = isTrial ? marks : mark + 1;
        return mark;
    }

    int copy(int tree) {
        return change(y -> y.copy(tree));
    }

    int node(int parent, int place, int kind, int value, int identity) {
        int mark = change(y -> y.node(parent, place, kind, value, identity));
        marks = isTrial ? marks : mark + 1;
        return mark;
    }

    int set(int mark, int value) {
        return change(y -> y.set(mark, value));
    }

    int move(int mark, int parent, int place) {
        return change(y -> y.move(mark, parent, place));
    }

    int drop(int mark) {
        return change(y -> y.drop(mark));
    }

    int seal() {
        return change(TwigPatch::seal);
    }

    int find(int from, int to) {
        return change(y -> y.find(from, to));
    }

    int turn(int script) {
        return change(y -> y.turn(script));
    }

    int apply(int script, int tree) {
        return change(y -> y.apply(script, tree));
    }

    int fuzz() {
        return ask(TwigPatch::fuzz);
    }

    int setPolicy(int conflict, int policy) {
        return change(y -> y.setPolicy(conflict, policy));
    }

    int merge(int base, int left, int right) {
        return change(y -> y.merge(base, left, right));
    }

    int version(int tree, int first, int second) {
        return change(y -> y.version(tree, first, second));
    }

    int mergeVersions(int left, int right) {
        return change(y -> y.mergeVersions(left, right));
    }

    int takeBack(int version, int head) {
        return change(y -> y.takeBack(version, head));
    }

    int trees() {
        return ask(TwigPatch::trees);
    }

    int size(int tree) {
        return ask(y -> y.size(tree));
    }

    int markAt(int tree, int place) {
        return ask(y -> y.markAt(tree, place));
    }

    int value(int tree, int mark) {
        return ask(y -> y.value(tree, mark));
    }

    int parent(int tree, int mark) {
        return ask(y -> y.parent(tree, mark));
    }

    boolean areAlike(int tree, int other) {
        return ask(y -> y.areAlike(tree, other));
    }

    boolean areSame(int tree, int other) {
        return ask(y -> y.areSame(tree, other));
    }

    int match(int from, int to, int mark) {
        return ask(y -> y.match(from, to, mark));
    }

    float likeness(int from, int to, int mark, int other) {
        return ask(y -> y.likeness(from, to, mark, other));
    }

    int steps(int script) {
        return ask(y -> y.steps(script));
    }

    int stepKind(int script, int step) {
        return ask(y -> y.stepKind(script, step));
    }

    int stepMark(int script, int step) {
        return ask(y -> y.stepMark(script, step));
    }

    int stepTo(int script, int step, boolean isWhat) {
        return ask(y -> y.stepTo(script, step, isWhat));
    }

    int conflicts() {
        return ask(TwigPatch::conflicts);
    }

    int conflictKind(int conflict) {
        return ask(y -> y.conflictKind(conflict));
    }

    int conflictMark(int conflict) {
        return ask(y -> y.conflictMark(conflict));
    }

    int versions() {
        return ask(TwigPatch::versions);
    }

    int treeOf(int version) {
        return ask(y -> y.treeOf(version));
    }

    int touched(int version, int mark) {
        return ask(y -> y.touched(version, mark));
    }

    int look(int from, int to, int kind, int value) {
        return ask(y -> y.look(from, to, kind, value));
    }

    // ---- counting and keeping calls

    /** How many calls that change something this object has had. */
    int changes() {
        return told.size();
    }

    /** How many marks were made. */
    int marks() {
        return marks;
    }

    private <T> T ask(Function<TwigPatch, T> question) {
        count();
        return question.apply(x);
    }

    private int change(Function<TwigPatch, Object> call) {
        count();
        Object answer = call.apply(x);
        if (!isTrial) {
            told.add(new Told(call, answer));
            portrait = null;
        }
        return (Integer) answer;
    }

    private void count() {
        if (isTrial) {
            return;
        }
        if (calls >= MOST_CALLS) {
            x = another();
            calls = told.size();
        }
        calls++;
    }

    /** Another object to which the same calls came that have changed something. */
    private TwigPatch another() {
        if (told.size() >= MOST_CALLS) {
            throw new AssertionError("the test makes too many calls");
        }
        TwigPatch y = new TwigPatch();
        for (Told one : told) {
            if (!one.answer.equals(one.call.apply(y))) {
                throw new AssertionError("the same calls gave another answer");
            }
        }
        return y;
    }

    // ---- what one more call changes

    /** What a call answers, or throws, that comes to another object than this one. */
    Object outcome(Supplier<?> call) {
        return outcome(another(), call);
    }

    private Object outcome(TwigPatch y, Supplier<?> call) {
        TwigPatch kept = x;
        x = y;
        isTrial = true;
        try {
            return call.get();
        } catch (RuntimeException e) {
            return e.getClass();
        } finally {
            x = kept;
            isTrial = false;
        }
    }

    /** What can be told apart between an object to which this call came, and one to which it did not; empty, if nothing. */
    String difference(Supplier<?> call) {
        if (portrait == null) {
            portrait = portray(null);
        }
        List<String> after = portray(call);
        for (int i = 0; i < portrait.size() || i < after.size(); i++) {
            String one = i < portrait.size() ? portrait.get(i) : "nothing";
            String other = i < after.size() ? after.get(i) : "nothing";
            if (!one.equals(other)) {
                return other + " (without it: " + one + ")";
            }
        }
        return "";
    }

    /** Asks as many objects as it takes; each has had this call (if there is one) last of all. */
    private List<String> portray(Supplier<?> last) {
        List<String> answers = new ArrayList<>();
        for (Group group : List.of(questions(), draft(), draftByMarks(), makings(), policies())) {
            TwigPatch y = null;
            int left = 0;
            for (Probe probe : group.probes) {
                if (left == 0) {
                    y = another();
                    if (last != null) {
                        outcome(y, last);
                    }
                    if (group.opening != null) {
                        answers.add(group.opening.name + " is " + answer(group.opening, y));
                    }
                    left = MOST_CALLS - told.size() - 2;
                }
                left--;
                answers.add(probe.name + " is " + answer(probe, y));
            }
        }
        return answers;
    }

    private static String answer(Probe probe, TwigPatch y) {
        try {
            return Objects.toString(probe.call.apply(y));
        } catch (RuntimeException e) {
            return e.getClass().getName();
        }
    }

    private Group questions() {
        List<Probe> all = new ArrayList<>();
        all.add(new Probe("trees()", TwigPatch::trees));
        all.add(new Probe("versions()", TwigPatch::versions));
        all.add(new Probe("fuzz()", TwigPatch::fuzz));
        all.add(new Probe("conflicts()", TwigPatch::conflicts));
        int trees = trees();
        for (int t = 0; t <= trees; t++) {
            askTree(all, t);
        }
        for (int c = 0; c <= conflicts(); c++) {
            int conflict = c;
            all.add(new Probe("conflictKind(" + c + ")", y -> y.conflictKind(conflict)));
            all.add(new Probe("conflictMark(" + c + ")", y -> y.conflictMark(conflict)));
        }
        askScripts(all);
        askVersions(all);
        askMatching(all, trees);
        return new Group(null, all);
    }

    private void askTree(List<Probe> all, int tree) {
        all.add(new Probe("size(" + tree + ")", y -> y.size(tree)));
        int size = tree < trees() ? size(tree) : 0;
        for (int p = 0; p <= size; p++) {
            int place = p;
            int mark = p < size ? markAt(tree, p) : marks;
            all.add(new Probe("markAt(" + tree + ", " + p + ")", y -> y.markAt(tree, place)));
            all.add(new Probe("value(" + tree + ", " + mark + ")", y -> y.value(tree, mark)));
            all.add(new Probe("parent(" + tree + ", " + mark + ")", y -> y.parent(tree, mark)));
        }
    }

    private void askScripts(List<Probe> all) {
        for (int s = 0; s <= 40; s++) {
            int script = s;
            all.add(new Probe("steps(" + s + ")", y -> y.steps(script)));
            int steps = stepsOrNone(s);
            for (int i = 0; i < steps; i++) {
                int step = i;
                String at = "(" + s + ", " + i + ")";
                all.add(new Probe("stepKind" + at, y -> y.stepKind(script, step)));
                all.add(new Probe("stepMark" + at, y -> y.stepMark(script, step)));
                all.add(new Probe("stepTo" + at + " true", y -> y.stepTo(script, step, true)));
                all.add(new Probe("stepTo" + at + " false", y -> y.stepTo(script, step, false)));
            }
            if (steps == NONE) {
                return;
            }
        }
    }

    private int stepsOrNone(int script) {
        try {
            return steps(script);
        } catch (IndexOutOfBoundsException e) {
            return NONE;
        }
    }

    private void askVersions(List<Probe> all) {
        int versions = versions();
        int stride = 1 + versions * marks / 1000;
        for (int v = 0; v <= versions; v++) {
            int version = v;
            all.add(new Probe("treeOf(" + v + ")", y -> y.treeOf(version)));
            for (int m = v % stride; m <= marks; m += stride) {
                int mark = m;
                all.add(new Probe("touched(" + v + ", " + m + ")", y -> y.touched(version, mark)));
            }
            for (int f = v - 1; f >= 0 && f > v - 6; f--) {
                int from = f;
                all.add(new Probe("look(" + f + ", " + v + ", 0, 0)", y -> y.look(from, version, 0, 0)));
            }
        }
    }

    private void askMatching(List<Probe> all, int trees) {
        for (int t = 0; t < trees; t += 1 + trees / 6) {
            int from = t;
            int to = trees - 1;
            all.add(new Probe("areAlike(" + t + ", " + to + ")", y -> y.areAlike(from, to)));
            all.add(new Probe("areSame(" + t + ", " + to + ")", y -> y.areSame(from, to)));
            for (int p = 0; p < Math.min(30, size(t)); p++) {
                int mark = markAt(t, p);
                all.add(new Probe("match(" + t + ", " + to + ", " + mark + ")", y -> y.match(from, to, mark)));
            }
            int root = markAt(t, 0);
            int other = markAt(to, 0);
            all.add(new Probe("likeness of the roots of " + t + " and " + to, y -> y.likeness(from, to, root, other)));
        }
    }

    /** The draft, as the tree shows that it makes. */
    private Group draft() {
        List<Probe> all = new ArrayList<>();
        int tree = trees();
        int stride = 1 + marks / 100;
        for (int p = 0; p < 30; p++) {
            int place = p;
            all.add(new Probe("markAt(" + tree + ", " + p + ")", y -> y.markAt(tree, place)));
        }
        for (int m = 0; m < marks; m += stride) {
            int mark = m;
            all.add(new Probe("value(" + tree + ", " + m + ")", y -> y.value(tree, mark)));
            all.add(new Probe("parent(" + tree + ", " + m + ")", y -> y.parent(tree, mark)));
        }
        return new Group(new Probe("seal()", TwigPatch::seal), all);
    }

    /** The draft once more, as it can be asked when there is no room for a tree; it changes by that. */
    private Group draftByMarks() {
        List<Probe> all = new ArrayList<>();
        int stride = 1 + marks / 100;
        for (int m = marks; m >= -1; m -= stride) {
            int mark = m;
            all.add(new Probe("set(" + m + ", 0)", y -> y.set(mark, 0)));
            all.add(new Probe("drop(" + m + ")", y -> y.drop(mark)));
        }
        return new Group(null, all);
    }

    private Group makings() {
        List<Probe> all = new ArrayList<>();
        all.add(new Probe("begin(0, 0, NONE)", y -> y.begin(0, 0, NONE)));
        all.add(new Probe("find(0, 0)", y -> y.find(0, 0)));
        all.add(new Probe("merge(0, 0, 0)", y -> y.merge(0, 0, 0)));
        all.add(new Probe("version(0, NONE, NONE)", y -> y.version(0, NONE, NONE)));
        for (int s = 0; s < 3; s++) {
            int script = s;
            all.add(new Probe("apply(" + s + ", 0)", y -> y.apply(script, 0)));
            all.add(new Probe("fuzz()", TwigPatch::fuzz));
        }
        return new Group(null, all);
    }

    private Group policies() {
        List<Probe> all = new ArrayList<>();
        for (int kind : new int[] {TwigPatch.GONE, TwigPatch.VALUE, TwigPatch.PLACE, TwigPatch.ORDER}) {
            all.add(new Probe("setPolicy(" + kind + ", LEFT)", y -> y.setPolicy(kind, TwigPatch.LEFT)));
        }
        return new Group(null, all);
    }
}
