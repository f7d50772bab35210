import java.util.Arrays;

/**
 * A workshop for trees and their differences: drafts, trees, scripts, merging and history, as
 * ../shared/DOC.md tells. README.md says how to use it.
 */
public final class TwigPatch {
    public static final int NONE = -1;
    public static final int UPDATE = 0, PUT = 1, MOVE = 2, REMOVE = 3;
    public static final int GONE = 0, VALUE = 1, PLACE = 2, LOST = 3, RING = 4, ORDER = 5;
    public static final int NEITHER = 0, LEFT = 1, RIGHT = 2;

    private static final int KINDS = 6;
    private static final int FIRST_LOOSE_KIND = 4;
    private static final int VALUES = 100;
    private static final int IDENTITIES = 100;
    private static final int MOST_MARKS = 300;
    private static final int MOST_TREES = 40;
    private static final int MOST_SCRIPTS = 40;
    private static final int MOST_STEPS = 100;
    private static final int MOST_VERSIONS = 30;
    private static final int FULL_DRAFT = 24;
    private static final int DROPPED = 10;

    private final Marks marks;
    private final Bush draft;
    private final Bush bench;
    private final Tree[] forest;
    private int treeCount;
    private final Script[] scripts;
    private int scriptCount;
    private final Likes likes;
    private final Matching matching;
    private final Finder finder;
    private int lastFuzz;
    private final Merger merger;
    private final History history;

    public TwigPatch() {
        marks = new Marks();
        draft = new Bush(marks);
        bench = new Bush(marks);
        forest = new Tree[MOST_TREES];
        scripts = new Script[MOST_SCRIPTS];
        likes = new Likes(marks);
        matching = new Matching(marks, likes);
        finder = new Finder(marks, bench, matching);
        merger = new Merger(marks, bench);
        history = new History();
    }

    // ---- drafts, trees

    public int begin(int kind, int value, int identity) throws IllegalArgumentException, IllegalStateException {
        needLooks(kind, value, identity);
        needFreeMark();
        int mark = marks.make(kind, identity);
        draft.plant(mark, value);
        return mark;
    }

    public int copy(int tree) throws IndexOutOfBoundsException {
        Tree source = needTree(tree);
        draft.takeOver(source);
        return source.count;
    }

    public int node(int parent, int place, int kind, int value, int identity)
            throws IndexOutOfBoundsException, IllegalArgumentException, IllegalStateException {
        needDrafted(parent);
        needPlace(parent, place, NONE);
        needLooks(kind, value, identity);
        if (draft.count >= FULL_DRAFT) {
            throw new IllegalStateException("the draft is full");
        }
        needFreeMark();
        int mark = marks.make(kind, identity);
        draft.sprout(mark, value);
        draft.hang(mark, parent, draft.childAhead(parent, place));
        return mark;
    }

    public int set(int mark, int value) throws IndexOutOfBoundsException, IllegalArgumentException {
        needDrafted(mark);
        needValue(value);
        int before = draft.worthOf(mark);
        draft.give(mark, value);
        return before;
    }

    public int move(int mark, int parent, int place) throws IndexOutOfBoundsException, IllegalStateException {
        needDrafted(mark);
        needDrafted(parent);
        needPlace(parent, place, mark);
        // Everything is within the root, so this refuses to move the root as well.
        if (draft.isWithin(parent, mark)) {
            throw new IllegalStateException("a node can't go below itself");
        }
        int before = draft.upOf(mark);
        draft.cut(mark);
        draft.hang(mark, parent, draft.childAhead(parent, place));
        return before;
    }

    public int drop(int mark) throws IndexOutOfBoundsException, IllegalStateException {
        needDrafted(mark);
        if (mark == draft.root) {
            throw new IllegalStateException("the root stays");
        }
        return draft.erase(mark);
    }

    public int seal() throws IllegalStateException {
        if (draft.root == NONE) {
            throw new IllegalStateException("there is no draft");
        }
        needRoomForTree();
        return keepTree(draft.freeze());
    }

    // ---- scripts

    public int find(int from, int to) throws IndexOutOfBoundsException, IllegalStateException {
        Tree old = needTree(from);
        Tree young = needTree(to);
        needLikeRoots(old, young);
        needRoomForScript();
        matching.settle(old, young);
        Script script = finder.findScript(old, young);
        if (script.isTooLong()) {
            throw new IllegalStateException("the script would be too long");
        }
        return keepScript(script);
    }

    public int turn(int script) throws IndexOutOfBoundsException, IllegalStateException {
        Script source = needScript(script);
        needRoomForScript();
        return keepScript(source.turnedBack());
    }

    public int apply(int script, int tree) throws IndexOutOfBoundsException, IllegalStateException {
        Script source = needScript(script);
        Tree ground = needTree(tree);
        needRoomForTree();
        bench.takeOver(ground);
        lastFuzz = source.playOn(bench);
        return keepTree(bench.freeze());
    }

    public int fuzz() {
        return lastFuzz;
    }

    // ---- merging, versions

    public int setPolicy(int conflict, int policy) throws IllegalArgumentException {
        boolean hasPolicy = conflict == GONE || conflict == VALUE || conflict == PLACE || conflict == ORDER;
        if (!hasPolicy || policy < NEITHER || policy > RIGHT) {
            throw new IllegalArgumentException("no such conflict or policy");
        }
        int before = merger.policies.at(conflict);
        merger.policies.put(conflict, policy);
        return before;
    }

    public int merge(int base, int left, int right) throws IndexOutOfBoundsException, IllegalStateException {
        Tree ground = needTree(base);
        Tree one = needTree(left);
        Tree other = needTree(right);
        needSameRoots(ground, one, other);
        needRoomForTree();
        return keepTree(merger.mergeTrees(ground, one, other));
    }

    public int version(int tree, int first, int second)
            throws IndexOutOfBoundsException, IllegalArgumentException, IllegalStateException {
        needTree(tree);
        needVersionOrNone(first);
        needVersionOrNone(second);
        if (second != NONE && (first == NONE || first == second)) {
            throw new IllegalArgumentException("a second parent needs another first one");
        }
        needRoomForVersion();
        return history.keep(tree, first, second);
    }

    public int mergeVersions(int left, int right)
            throws IndexOutOfBoundsException, IllegalArgumentException, IllegalStateException {
        needVersion(left);
        needVersion(right);
        if (left == right) {
            throw new IllegalArgumentException("a version is not merged with itself");
        }
        int base = history.baseOf(left, right);
        if (base == NONE) {
            throw new IllegalStateException("the versions have no base");
        }
        needMergeable(base, left, right);
        Tree merged = merger.mergeTrees(treeOfVersion(base), treeOfVersion(left), treeOfVersion(right));
        return history.keep(keepTree(merged), left, right);
    }

    public int takeBack(int version, int head) throws IndexOutOfBoundsException, IllegalStateException {
        needVersion(version);
        needVersion(head);
        int before = history.firstOf(version);
        if (before == NONE) {
            throw new IllegalStateException("the version has no parents");
        }
        if (head == version || !history.reaches(head, version)) {
            throw new IllegalStateException("head does not come behind the version");
        }
        needMergeable(version, head, before);
        Tree merged = merger.mergeTrees(treeOfVersion(version), treeOfVersion(head), treeOfVersion(before));
        return history.keep(keepTree(merged), head, NONE);
    }

    // ---- trees as they are

    public int trees() {
        return treeCount;
    }

    public int size(int tree) throws IndexOutOfBoundsException {
        return needTree(tree).count;
    }

    public int markAt(int tree, int place) throws IndexOutOfBoundsException {
        Tree it = needTree(tree);
        if (place < 0 || place >= it.count) {
            throw new IndexOutOfBoundsException("there is no such place");
        }
        return it.markOf(place);
    }

    public int value(int tree, int mark) throws IndexOutOfBoundsException {
        Tree it = needTree(tree);
        needMade(mark);
        return it.worthOfMark(mark);
    }

    public int parent(int tree, int mark) throws IndexOutOfBoundsException {
        Tree it = needTree(tree);
        needMade(mark);
        return it.parentOfMark(mark);
    }

    public boolean areAlike(int tree, int other) throws IndexOutOfBoundsException {
        Tree one = needTree(tree);
        Tree two = needTree(other);
        return one.count == two.count && likes.rootsAlike(one, two);
    }

    public boolean areSame(int tree, int other) throws IndexOutOfBoundsException {
        Tree one = needTree(tree);
        Tree two = needTree(other);
        return one.isSameAs(two);
    }

    public int match(int from, int to, int mark) throws IndexOutOfBoundsException, IllegalStateException {
        Tree old = needTree(from);
        Tree young = needTree(to);
        needHeld(old, mark);
        needLikeRoots(old, young);
        matching.settle(old, young);
        return young.markOf(matching.newOf(old.placeOf(mark)));
    }

    public float likeness(int from, int to, int mark, int other)
            throws IndexOutOfBoundsException, IllegalStateException {
        Tree old = needTree(from);
        Tree young = needTree(to);
        needHeld(old, mark);
        needHeld(young, other);
        needLikeRoots(old, young);
        matching.settle(old, young);
        return matching.likenessOf(old, old.placeOf(mark), young, young.placeOf(other));
    }

    // ---- scripts as they are

    public int steps(int script) throws IndexOutOfBoundsException {
        return needScript(script).count;
    }

    public int stepKind(int script, int step) throws IndexOutOfBoundsException {
        return needStep(script, step).kind;
    }

    public int stepMark(int script, int step) throws IndexOutOfBoundsException {
        return needStep(script, step).mark;
    }

    public int stepTo(int script, int step, boolean isWhat) throws IndexOutOfBoundsException {
        Spot goes = needStep(script, step).goes;
        return isWhat ? goes.under : goes.ahead;
    }

    // ---- conflicts, history

    public int conflicts() {
        return merger.conflictKinds.used;
    }

    public int conflictKind(int conflict) throws IndexOutOfBoundsException {
        needConflict(conflict);
        return merger.conflictKinds.at(conflict);
    }

    public int conflictMark(int conflict) throws IndexOutOfBoundsException {
        needConflict(conflict);
        return merger.conflictMarks.at(conflict);
    }

    public int versions() {
        return history.count;
    }

    public int treeOf(int version) throws IndexOutOfBoundsException {
        needVersion(version);
        return history.treeNumber(version);
    }

    public int touched(int version, int mark) throws IndexOutOfBoundsException {
        needVersion(version);
        needMade(mark);
        if (!treeOfVersion(version).holds(mark)) {
            return NONE;
        }
        int last = version;
        // Parents have lower numbers, so the way back has no more steps than there are versions.
        for (int step = 0; step < MOST_VERSIONS; step++) {
            int earlier = parentWithSame(last, mark);
            if (earlier == NONE) {
                break;
            }
            last = earlier;
        }
        return last;
    }

    public int look(int from, int to, int kind, int value)
            throws IndexOutOfBoundsException, IllegalArgumentException, IllegalStateException {
        needVersion(from);
        needVersion(to);
        needKind(kind);
        needValue(value);
        if (!history.layLine(from, to)) {
            throw new IllegalStateException("the later version does not reach the earlier one");
        }
        int low = 0;
        int high = history.lineLength - 1;
        for (int halving = 0; halving < MOST_VERSIONS && low < high; halving++) {
            int middle = (low + high) / 2;
            if (treeOfVersion(history.onLine(middle)).shows(marks, kind, value)) {
                high = middle;
            } else {
                low = middle + 1;
            }
        }
        int left = history.onLine(low);
        return treeOfVersion(left).shows(marks, kind, value) ? left : NONE;
    }

    // ---- what the calls need

    private Tree needTree(int number) {
        Tree it = number >= 0 && number < treeCount && number < forest.length ? forest[number] : null;
        if (it == null) {
            throw new IndexOutOfBoundsException("there is no such tree");
        }
        return it;
    }

    private Script needScript(int number) {
        Script it = number >= 0 && number < scriptCount && number < scripts.length ? scripts[number] : null;
        if (it == null) {
            throw new IndexOutOfBoundsException("there is no such script");
        }
        return it;
    }

    private Step needStep(int script, int number) {
        Step it = needScript(script).stepOrNull(number);
        if (it == null) {
            throw new IndexOutOfBoundsException("there is no such step");
        }
        return it;
    }

    private void needVersion(int number) {
        if (!history.has(number)) {
            throw new IndexOutOfBoundsException("there is no such version");
        }
    }

    private void needVersionOrNone(int number) {
        if (number != NONE) {
            needVersion(number);
        }
    }

    private void needConflict(int number) {
        if (number < 0 || number >= merger.conflictKinds.used) {
            throw new IndexOutOfBoundsException("there is no such conflict");
        }
    }

    private void needMade(int mark) {
        if (mark < 0 || mark >= marks.made) {
            throw new IndexOutOfBoundsException("there is no such mark");
        }
    }

    private void needHeld(Tree tree, int mark) {
        if (!tree.holds(mark)) {
            throw new IndexOutOfBoundsException("the tree does not have the mark");
        }
    }

    private void needDrafted(int mark) {
        if (!draft.has(mark)) {
            throw new IndexOutOfBoundsException("the draft does not have the mark");
        }
    }

    /** A node that moves among its siblings is not counted as one of them. */
    private void needPlace(int parent, int place, int moving) {
        if (marks.isLoose(parent)) {
            return;
        }
        int others = draft.countChildren(parent) - (draft.isChild(moving, parent) ? 1 : 0);
        if (place < 0 || place > others) {
            throw new IndexOutOfBoundsException("there is no such place");
        }
    }

    private void needKind(int kind) {
        if (kind < 0 || kind >= KINDS) {
            throw new IllegalArgumentException("the kind is out of range");
        }
    }

    private void needValue(int value) {
        if (value < 0 || value >= VALUES) {
            throw new IllegalArgumentException("the value is out of range");
        }
    }

    private void needLooks(int kind, int value, int identity) {
        needKind(kind);
        needValue(value);
        if (identity != NONE && (identity < 0 || identity >= IDENTITIES)) {
            throw new IllegalArgumentException("the identity is out of range");
        }
    }

    private void needFreeMark() {
        if (marks.made >= MOST_MARKS) {
            throw new IllegalStateException("there are no more marks");
        }
    }

    private void needRoomForTree() {
        if (treeCount >= MOST_TREES) {
            throw new IllegalStateException("there are as many trees as there may be");
        }
    }

    private void needRoomForScript() {
        if (scriptCount >= MOST_SCRIPTS) {
            throw new IllegalStateException("there are as many scripts as there may be");
        }
    }

    private void needRoomForVersion() {
        if (history.count >= MOST_VERSIONS) {
            throw new IllegalStateException("there are as many versions as there may be");
        }
    }

    private void needLikeRoots(Tree old, Tree young) {
        if (!marks.agree(old.markOf(0), young.markOf(0))) {
            throw new IllegalStateException("the roots are unlike");
        }
    }

    private void needSameRoots(Tree base, Tree left, Tree right) {
        int root = base.markOf(0);
        if (left.markOf(0) != root || right.markOf(0) != root) {
            throw new IllegalStateException("the marks of the roots are unlike");
        }
    }

    private void needMergeable(int base, int left, int right) {
        needSameRoots(treeOfVersion(base), treeOfVersion(left), treeOfVersion(right));
        needRoomForTree();
        needRoomForVersion();
    }

    // ---- what the calls keep and look up

    private int keepTree(Tree tree) {
        if (treeCount >= forest.length) {
            return NONE;
        }
        forest[treeCount] = tree;
        treeCount++;
        return treeCount - 1;
    }

    private int keepScript(Script script) {
        if (scriptCount >= scripts.length) {
            return NONE;
        }
        scripts[scriptCount] = script;
        scriptCount++;
        return scriptCount - 1;
    }

    private Tree treeOfVersion(int version) {
        return needTree(history.treeNumber(version));
    }

    private int parentWithSame(int version, int mark) {
        Tree tree = treeOfVersion(version);
        int first = history.firstOf(version);
        if (first != NONE && treeOfVersion(first).hasSame(tree, mark)) {
            return first;
        }
        int second = history.secondOf(version);
        return second != NONE && treeOfVersion(second).hasSame(tree, mark) ? second : NONE;
    }

    /**
     * A row of numbers that looks at each index before it uses it; outside of it there is NONE. What
     * is pushed comes to the end of what was pushed since it was cleared, and the row grows for it.
     */
    private static final class Row {
        private int[] cells;
        private int used;

        Row(int length) {
            cells = new int[length > 0 ? length : 0];
        }

        int at(int index) {
            return index >= 0 && index < cells.length ? cells[index] : NONE;
        }

        void put(int index, int number) {
            if (index >= 0 && index < cells.length) {
                cells[index] = number;
            }
        }

        void fill(int length, int number) {
            for (int i = 0; i < length && i < cells.length; i++) {
                cells[i] = number;
            }
        }

        void clear() {
            used = 0;
        }

        void push(int number) {
            if (used >= cells.length) {
                lengthen();
            }
            if (used < cells.length) {
                cells[used] = number;
                used++;
            }
        }

        private void lengthen() {
            int longer = 2 * cells.length + 1;
            if (longer > cells.length) {
                cells = Arrays.copyOf(cells, longer);
            }
        }

        boolean hasSamePushed(Row other) {
            if (used != other.used) {
                return false;
            }
            for (int i = 0; i < used; i++) {
                if (at(i) != other.at(i)) {
                    return false;
                }
            }
            return true;
        }
    }

    /** What never changes of the marks. */
    private static final class Marks {
        private final Row kinds = new Row(MOST_MARKS);
        private final Row identities = new Row(MOST_MARKS);
        private int made;

        int make(int kind, int identity) {
            int mark = made;
            made++;
            kinds.put(mark, kind);
            identities.put(mark, identity);
            return mark;
        }

        int kindOf(int mark) {
            return kinds.at(mark);
        }

        int identityOf(int mark) {
            return identities.at(mark);
        }

        /** Whether the order of the children of such a node does not matter. */
        boolean isLoose(int mark) {
            return kinds.at(mark) >= FIRST_LOOSE_KIND;
        }

        boolean agree(int mark, int other) {
            return kinds.at(mark) == kinds.at(other) && identities.at(mark) == identities.at(other);
        }
    }

    /**
     * A tree as it stays. A place is the number of a node in order, from 0 for the root; what is
     * below a node has the places from the next one up to its end.
     */
    private static final class Tree {
        private final int count;
        private final Row placeMark;
        private final Row placeWorth;
        private final Row placeUp;
        private final Row placeEnd;
        private final Row placeRank;
        private final Row kidsFrom;
        private final Row kidsCount;
        private final Row kidPlaces;
        private final Row markPlace;

        Tree(int nodes, int marksMade) {
            count = nodes;
            placeMark = new Row(nodes);
            placeWorth = new Row(nodes);
            placeUp = new Row(nodes);
            placeEnd = new Row(nodes);
            placeRank = new Row(nodes);
            kidsFrom = new Row(nodes);
            kidsCount = new Row(nodes);
            kidPlaces = new Row(nodes);
            markPlace = new Row(marksMade);
            markPlace.fill(marksMade, NONE);
        }

        /** Places have to be filled in order: a parent is known when its children come. */
        void fillPlace(int place, int mark, int worth, int parentMark) {
            int up = placeOf(parentMark);
            int rank = up == NONE ? 0 : kidsCount.at(up);
            placeMark.put(place, mark);
            placeWorth.put(place, worth);
            placeUp.put(place, up);
            placeRank.put(place, rank);
            placeEnd.put(place, place + 1);
            kidsCount.put(up, rank + 1);
            markPlace.put(mark, place);
        }

        /** To be called when all places are filled. */
        void close() {
            int from = 0;
            for (int place = 0; place < count; place++) {
                kidsFrom.put(place, from);
                from += kidsCount.at(place);
            }
            for (int place = 1; place < count; place++) {
                kidPlaces.put(kidsFrom.at(placeUp.at(place)) + placeRank.at(place), place);
            }
            for (int place = count - 1; place > 0; place--) {
                int up = placeUp.at(place);
                placeEnd.put(up, Math.max(placeEnd.at(up), placeEnd.at(place)));
            }
        }

        int markOf(int place) {
            return placeMark.at(place);
        }

        int worthOf(int place) {
            return placeWorth.at(place);
        }

        int upOf(int place) {
            return placeUp.at(place);
        }

        int endOf(int place) {
            return placeEnd.at(place);
        }

        int below(int place) {
            return placeEnd.at(place) - place - 1;
        }

        int rankOf(int place) {
            return placeRank.at(place);
        }

        int kidsOf(int place) {
            return kidsCount.at(place);
        }

        int kid(int place, int rank) {
            return rank >= 0 && rank < kidsCount.at(place) ? kidPlaces.at(kidsFrom.at(place) + rank) : NONE;
        }

        int placeOf(int mark) {
            return markPlace.at(mark);
        }

        boolean holds(int mark) {
            return markPlace.at(mark) != NONE;
        }

        int worthOfMark(int mark) {
            return placeWorth.at(markPlace.at(mark));
        }

        int parentOfMark(int mark) {
            return placeMark.at(placeUp.at(markPlace.at(mark)));
        }

        boolean hasUnder(int mark, int parentMark) {
            int place = markPlace.at(mark);
            return place != NONE && placeMark.at(placeUp.at(place)) == parentMark;
        }

        /** Whether both have the mark, with the same value and parent. */
        boolean hasSame(Tree other, int mark) {
            int here = markPlace.at(mark);
            int there = other.markPlace.at(mark);
            return here != NONE && there != NONE && placeWorth.at(here) == other.placeWorth.at(there)
                    && placeMark.at(placeUp.at(here)) == other.placeMark.at(other.placeUp.at(there));
        }

        boolean isSameAs(Tree other) {
            if (count != other.count) {
                return false;
            }
            for (int place = 0; place < count; place++) {
                if (markOf(place) != other.markOf(place) || !hasSame(other, markOf(place))) {
                    return false;
                }
            }
            return true;
        }

        boolean shows(Marks marks, int kind, int worth) {
            for (int place = 0; place < count; place++) {
                if (marks.kindOf(markOf(place)) == kind && worthOf(place) == worth) {
                    return true;
                }
            }
            return false;
        }
    }

    /** A tree that still changes: its nodes are linked by their marks. */
    private static final class Bush {
        private final Marks marks;
        private final Row held = new Row(MOST_MARKS);
        private final Row worth = new Row(MOST_MARKS);
        private final Row up = new Row(MOST_MARKS);
        private final Row first = new Row(MOST_MARKS);
        private final Row last = new Row(MOST_MARKS);
        private final Row ahead = new Row(MOST_MARKS);
        private final Row behind = new Row(MOST_MARKS);
        private int root = NONE;
        private int count;

        Bush(Marks marks) {
            this.marks = marks;
        }

        boolean has(int mark) {
            return held.at(mark) == 1;
        }

        int worthOf(int mark) {
            return worth.at(mark);
        }

        void give(int mark, int number) {
            worth.put(mark, number);
        }

        int upOf(int mark) {
            return up.at(mark);
        }

        int lastOf(int mark) {
            return last.at(mark);
        }

        int aheadOf(int mark) {
            return ahead.at(mark);
        }

        int behindOf(int mark) {
            return behind.at(mark);
        }

        Spot spotOf(int mark) {
            return new Spot(up.at(mark), ahead.at(mark), behind.at(mark));
        }

        boolean isChild(int mark, int parent) {
            return held.at(mark) == 1 && up.at(mark) == parent;
        }

        boolean hasChildren(int mark) {
            return first.at(mark) != NONE;
        }

        int countChildren(int parent) {
            int children = 0;
            for (int child = first.at(parent); child != NONE && children < count; child = behind.at(child)) {
                children++;
            }
            return children;
        }

        /** The child behind which another one comes to that place; the last one, if the place is too far. */
        int childAhead(int parent, int place) {
            int before = NONE;
            int child = first.at(parent);
            for (int i = 0; i < place && i < count && child != NONE; i++) {
                before = child;
                child = behind.at(child);
            }
            return before;
        }

        /** Whether the mark is that of the top, or below it. */
        boolean isWithin(int mark, int top) {
            int climber = mark;
            for (int i = 0; i < count && climber != NONE; i++) {
                if (climber == top) {
                    return true;
                }
                climber = up.at(climber);
            }
            return false;
        }

        /** Whether one child stands somewhere ahead of another one of the same parent. */
        boolean standsAhead(int mark, int sibling) {
            int walker = ahead.at(sibling);
            for (int i = 0; i < count && walker != NONE; i++) {
                if (walker == mark) {
                    return true;
                }
                walker = ahead.at(walker);
            }
            return false;
        }

        /** The next node in order among the top and what is below it. */
        int nextInOrder(int mark, int top) {
            if (first.at(mark) != NONE) {
                return first.at(mark);
            }
            int climber = mark;
            for (int i = 0; i < count && climber != NONE && climber != top; i++) {
                if (behind.at(climber) != NONE) {
                    return behind.at(climber);
                }
                climber = up.at(climber);
            }
            return NONE;
        }

        void plant(int mark, int number) {
            held.fill(MOST_MARKS, 0);
            count = 0;
            sprout(mark, number);
            root = mark;
        }

        void sprout(int mark, int number) {
            held.put(mark, 1);
            worth.put(mark, number);
            up.put(mark, NONE);
            first.put(mark, NONE);
            last.put(mark, NONE);
            ahead.put(mark, NONE);
            behind.put(mark, NONE);
            count++;
        }

        /** Links a node right behind a child of the parent, or as the first one; a loose parent finds the place. */
        void hang(int mark, int parent, int child) {
            int before = marks.isLoose(parent) ? lowerChild(parent, mark) : child;
            int after = before == NONE ? first.at(parent) : behind.at(before);
            up.put(mark, parent);
            join(parent, before, mark);
            join(parent, mark, after);
        }

        void cut(int mark) {
            join(up.at(mark), ahead.at(mark), behind.at(mark));
            up.put(mark, NONE);
            ahead.put(mark, NONE);
            behind.put(mark, NONE);
        }

        /** Makes two children neighbours; NONE stands for either end of the children. */
        private void join(int parent, int before, int after) {
            if (before == NONE) {
                first.put(parent, after);
            } else {
                behind.put(before, after);
            }
            if (after == NONE) {
                last.put(parent, before);
            } else {
                ahead.put(after, before);
            }
        }

        private int lowerChild(int parent, int mark) {
            int child = last.at(parent);
            for (int i = 0; i < count && child > mark; i++) {
                child = ahead.at(child);
            }
            return child;
        }

        /** Takes a node away with all below it, and answers how many are gone. */
        int erase(int top) {
            cut(top);
            int gone = 0;
            int mark = top;
            for (int i = 0; i < MOST_MARKS && mark != NONE; i++) {
                held.put(mark, 0);
                gone++;
                mark = nextInOrder(mark, top);
            }
            count -= gone;
            return gone;
        }

        void takeOver(Tree tree) {
            plant(tree.markOf(0), tree.worthOf(0));
            for (int place = 1; place < tree.count; place++) {
                int mark = tree.markOf(place);
                int parent = tree.markOf(tree.upOf(place));
                sprout(mark, tree.worthOf(place));
                hang(mark, parent, last.at(parent));
            }
        }

        Tree freeze() {
            Tree tree = new Tree(count, marks.made);
            int mark = root;
            for (int place = 0; place < count && mark != NONE; place++) {
                tree.fillPlace(place, mark, worth.at(mark), up.at(mark));
                mark = nextInOrder(mark, root);
            }
            tree.close();
            return tree;
        }
    }

    /**
     * Sorts nodes of two trees into families: all of a family are alike. A family is known by one
     * member's mark and value and by the families of the children, which are sorted where their
     * order does not matter. Nodes of the second tree are numbered behind those of the first one.
     */
    private static final class Likes {
        private static final int SECOND = MOST_MARKS;

        private final Marks marks;
        private final Row familyOf = new Row(2 * MOST_MARKS);
        private final Row memberMark = new Row(2 * MOST_MARKS);
        private final Row memberWorth = new Row(2 * MOST_MARKS);
        private final Row runFrom = new Row(2 * MOST_MARKS);
        private final Row runCount = new Row(2 * MOST_MARKS);
        private final Row runs = new Row(2 * MOST_MARKS);
        private int families;
        private int runsUsed;

        Likes(Marks marks) {
            this.marks = marks;
        }

        void clear() {
            families = 0;
            runsUsed = 0;
        }

        boolean rootsAlike(Tree one, Tree two) {
            clear();
            for (int place = one.count - 1; place >= 0; place--) {
                sortIn(one, place, 0);
            }
            for (int place = two.count - 1; place >= 0; place--) {
                sortIn(two, place, SECOND);
            }
            return areOneFamily(0, 0);
        }

        boolean areOneFamily(int place, int placeInSecond) {
            return familyOf.at(place) == familyOf.at(SECOND + placeInSecond);
        }

        /** The children have to be sorted in ahead of their parent. */
        void sortIn(Tree tree, int place, int offset) {
            int children = tree.kidsOf(place);
            boolean isLoose = marks.isLoose(tree.markOf(place));
            for (int rank = 0; rank < children; rank++) {
                int family = familyOf.at(offset + tree.kid(place, rank));
                layDown(family, runsUsed, runsUsed + rank, isLoose);
            }
            int known = knownFamily(tree.markOf(place), tree.worthOf(place), children);
            familyOf.put(offset + place, known == NONE ? found(tree, place, children) : known);
        }

        private void layDown(int family, int from, int end, boolean isSorted) {
            int spot = end;
            for (int i = end; isSorted && i > from && runs.at(i - 1) > family; i--) {
                runs.put(i, runs.at(i - 1));
                spot = i - 1;
            }
            runs.put(spot, family);
        }

        private int knownFamily(int mark, int worth, int children) {
            for (int family = 0; family < families; family++) {
                if (memberWorth.at(family) == worth && runCount.at(family) == children
                        && marks.agree(memberMark.at(family), mark) && hasRun(family, children)) {
                    return family;
                }
            }
            return NONE;
        }

        private boolean hasRun(int family, int children) {
            int from = runFrom.at(family);
            for (int i = 0; i < children; i++) {
                if (runs.at(from + i) != runs.at(runsUsed + i)) {
                    return false;
                }
            }
            return true;
        }

        private int found(Tree tree, int place, int children) {
            int family = families;
            families++;
            memberMark.put(family, tree.markOf(place));
            memberWorth.put(family, tree.worthOf(place));
            runFrom.put(family, runsUsed);
            runCount.put(family, children);
            runsUsed += children;
            return family;
        }
    }

    /** Matches the nodes of an old tree with those of a new one, by their places. */
    private static final class Matching {
        private final Marks marks;
        private final Likes likes;
        private final Row toNew = new Row(MOST_MARKS);
        private final Row toOld = new Row(MOST_MARKS);
        private final Row freeOld = new Row(MOST_MARKS);
        private final Row freeNew = new Row(MOST_MARKS);
        private final Row hitsUpTo = new Row(MOST_MARKS + 1);
        private Tree lastOld;
        private Tree lastYoung;

        Matching(Marks marks, Likes likes) {
            this.marks = marks;
            this.likes = likes;
        }

        int newOf(int oldPlace) {
            return toNew.at(oldPlace);
        }

        int oldOf(int newPlace) {
            return toOld.at(newPlace);
        }

        /** The matching of two trees never changes, so the last one is kept. */
        void settle(Tree old, Tree young) {
            if (old == lastOld && young == lastYoung) {
                return;
            }
            lastOld = old;
            lastYoung = young;
            toNew.fill(old.count, NONE);
            toOld.fill(young.count, NONE);
            pairSameMarks(old, young);
            pairRoots();
            pairIdentities(old, young);
            likes.clear();
            sortFree(old, toNew, freeOld, 0);
            sortFree(young, toOld, freeNew, Likes.SECOND);
            pairAlike(old, young);
            pairFromAbove(old, young, true);
            pairFromAbove(old, young, false);
            pairFromBelow(old, young);
        }

        float likenessOf(Tree old, int oldPlace, Tree young, int newPlace) {
            countHits(old, oldPlace, young);
            return likenessByHits(old.below(oldPlace), young, newPlace);
        }

        private void pair(int oldPlace, int newPlace) {
            toNew.put(oldPlace, newPlace);
            toOld.put(newPlace, oldPlace);
        }

        private boolean mayPair(Tree old, int oldPlace, Tree young, int newPlace) {
            return toNew.at(oldPlace) == NONE && toOld.at(newPlace) == NONE
                    && marks.agree(old.markOf(oldPlace), young.markOf(newPlace));
        }

        private void pairSameMarks(Tree old, Tree young) {
            for (int place = 0; place < old.count; place++) {
                int same = young.placeOf(old.markOf(place));
                if (same != NONE) {
                    pair(place, same);
                }
            }
        }

        private void pairRoots() {
            if (toNew.at(0) == NONE && toOld.at(0) == NONE) {
                pair(0, 0);
            }
        }

        private void pairIdentities(Tree old, Tree young) {
            for (int place = 0; place < old.count; place++) {
                if (toNew.at(place) == NONE && marks.identityOf(old.markOf(place)) != NONE) {
                    pairWithFirst(old, place, young);
                }
            }
        }

        private void pairWithFirst(Tree old, int oldPlace, Tree young) {
            for (int place = 0; place < young.count; place++) {
                if (mayPair(old, oldPlace, young, place)) {
                    pair(oldPlace, place);
                    return;
                }
            }
        }

        private void pairAlike(Tree old, Tree young) {
            for (int place = 0; place < old.count; place++) {
                if (freeOld.at(place) == 1 && toNew.at(place) == NONE) {
                    int alike = firstAlike(young, place);
                    if (alike != NONE) {
                        pairWithin(old, place, young, alike);
                        bindAbove(young, alike);
                    }
                }
            }
        }

        /** A node is free, if neither it is matched, nor anything below it. */
        private void sortFree(Tree tree, Row matched, Row free, int offset) {
            for (int place = 0; place < tree.count; place++) {
                free.put(place, matched.at(place) == NONE ? 1 : 0);
            }
            for (int place = tree.count - 1; place >= 0; place--) {
                if (free.at(place) == 1) {
                    likes.sortIn(tree, place, offset);
                } else {
                    free.put(tree.upOf(place), 0);
                }
            }
        }

        private int firstAlike(Tree young, int oldPlace) {
            for (int place = 0; place < young.count; place++) {
                if (freeNew.at(place) == 1 && toOld.at(place) == NONE && likes.areOneFamily(oldPlace, place)) {
                    return place;
                }
            }
            return NONE;
        }

        private void pairWithin(Tree old, int oldTop, Tree young, int newTop) {
            pair(oldTop, newTop);
            for (int place = oldTop; place < old.endOf(oldTop); place++) {
                boolean isLoose = marks.isLoose(old.markOf(place));
                int twin = toNew.at(place);
                for (int rank = 0; rank < old.kidsOf(place); rank++) {
                    int kid = old.kid(place, rank);
                    pair(kid, isLoose ? firstAlikeKid(young, twin, kid) : young.kid(twin, rank));
                }
            }
        }

        private int firstAlikeKid(Tree young, int parent, int oldKid) {
            for (int rank = 0; rank < young.kidsOf(parent); rank++) {
                int kid = young.kid(parent, rank);
                if (toOld.at(kid) == NONE && likes.areOneFamily(oldKid, kid)) {
                    return kid;
                }
            }
            return NONE;
        }

        private void bindAbove(Tree young, int place) {
            int climber = young.upOf(place);
            for (int i = 0; i < young.count && climber != NONE; i++) {
                freeNew.put(climber, 0);
                climber = young.upOf(climber);
            }
        }

        private void pairFromAbove(Tree old, Tree young, boolean byValue) {
            for (int place = 0; place < young.count; place++) {
                int twin = toOld.at(place);
                for (int rank = 0; twin != NONE && rank < young.kidsOf(place); rank++) {
                    pairKid(old, twin, young, young.kid(place, rank), byValue);
                }
            }
        }

        private void pairKid(Tree old, int oldParent, Tree young, int newKid, boolean byValue) {
            for (int rank = 0; rank < old.kidsOf(oldParent); rank++) {
                int kid = old.kid(oldParent, rank);
                if (mayPair(old, kid, young, newKid)
                        && (!byValue || old.worthOf(kid) == young.worthOf(newKid))) {
                    pair(kid, newKid);
                    return;
                }
            }
        }

        private void pairFromBelow(Tree old, Tree young) {
            for (int place = old.count - 1; place >= 0; place--) {
                if (toNew.at(place) == NONE && old.kidsOf(place) > 0) {
                    int likest = likestOf(old, place, young);
                    if (likest != NONE) {
                        pair(place, likest);
                    }
                }
            }
        }

        private int likestOf(Tree old, int oldPlace, Tree young) {
            countHits(old, oldPlace, young);
            int likest = NONE;
            float greatest = 0f;
            for (int place = 0; place < young.count; place++) {
                if (mayPair(old, oldPlace, young, place)) {
                    float likeness = likenessByHits(old.below(oldPlace), young, place);
                    if (likeness >= 0.5f && likeness > greatest) {
                        likest = place;
                        greatest = likeness;
                    }
                }
            }
            return likest;
        }

        /** Counts, for each place, how many places ahead of it are matched with nodes below the old one. */
        private void countHits(Tree old, int oldPlace, Tree young) {
            hitsUpTo.fill(young.count + 1, 0);
            for (int place = oldPlace + 1; place < old.endOf(oldPlace); place++) {
                if (toNew.at(place) != NONE) {
                    hitsUpTo.put(toNew.at(place) + 1, 1);
                }
            }
            for (int place = 1; place <= young.count; place++) {
                hitsUpTo.put(place, hitsUpTo.at(place) + hitsUpTo.at(place - 1));
            }
        }

        private float likenessByHits(int belowOld, Tree young, int newPlace) {
            int together = belowOld + young.below(newPlace);
            if (together <= 0) {
                return 0f;
            }
            int common = hitsUpTo.at(young.endOf(newPlace)) - hitsUpTo.at(newPlace + 1);
            return (float) (2 * common) / (float) together;
        }
    }

    /** Where a node stands: under which parent, and between which neighbours. */
    private static final class Spot {
        private final int under;
        private final int ahead;
        private final int behind;

        Spot(int under, int ahead, int behind) {
            this.under = under;
            this.ahead = ahead;
            this.behind = behind;
        }
    }

    /** A step: a PUT was nowhere and had no value, a REMOVE goes nowhere, so all steps turn back alike. */
    private static final class Step {
        private final int kind;
        private final int mark;
        private final int worthBefore;
        private final int worthAfter;
        private final Spot was;
        private final Spot goes;

        Step(int kind, int mark, int worthBefore, int worthAfter, Spot was, Spot goes) {
            this.kind = kind;
            this.mark = mark;
            this.worthBefore = worthBefore;
            this.worthAfter = worthAfter;
            this.was = was;
            this.goes = goes;
        }

        Step turnedBack() {
            int back = kind == PUT ? REMOVE : kind == REMOVE ? PUT : kind;
            return new Step(back, mark, worthAfter, worthBefore, goes, was);
        }

        /** Takes the step, if it can be taken, and answers its fuzz. */
        int playOn(Bush bush) {
            if (!fits(bush)) {
                return DROPPED;
            }
            switch (kind) {
                case UPDATE:
                    int found = bush.worthOf(mark);
                    bush.give(mark, worthAfter);
                    return found == worthBefore ? 0 : 1;
                case REMOVE:
                    bush.erase(mark);
                    return 0;
                case PUT:
                    bush.sprout(mark, worthAfter);
                    return arriveIn(bush);
                default:
                    bush.cut(mark);
                    return arriveIn(bush);
            }
        }

        private boolean fits(Bush bush) {
            boolean isThere = bush.has(mark);
            switch (kind) {
                case UPDATE:
                    return isThere;
                case REMOVE:
                    return isThere && !bush.hasChildren(mark) && mark != bush.root;
                case PUT:
                    return !isThere && bush.has(goes.under);
                default:
                    return isThere && bush.has(goes.under) && !bush.isWithin(goes.under, mark);
            }
        }

        private int arriveIn(Bush bush) {
            bush.hang(mark, goes.under, childAhead(bush));
            if (bush.marks.isLoose(goes.under)) {
                return 0;
            }
            int fuzz = 0;
            if (goes.ahead != NONE && bush.aheadOf(mark) != goes.ahead) {
                fuzz++;
            }
            if (goes.behind != NONE && bush.behindOf(mark) != goes.behind) {
                fuzz++;
            }
            return fuzz;
        }

        private int childAhead(Bush bush) {
            if (bush.isChild(goes.ahead, goes.under)) {
                return goes.ahead;
            }
            if (bush.isChild(goes.behind, goes.under)) {
                return bush.aheadOf(goes.behind);
            }
            return bush.lastOf(goes.under);
        }
    }

    /** Steps in a row; one beyond the most is counted alone, so that the script is known to be too long. */
    private static final class Script {
        private final Step[] steps;
        private int count;

        Script(int most) {
            steps = new Step[most > 0 ? most : 0];
        }

        void add(Step step) {
            if (count < steps.length) {
                steps[count] = step;
            }
            count++;
        }

        Step stepOrNull(int number) {
            return number >= 0 && number < count && number < steps.length ? steps[number] : null;
        }

        boolean isTooLong() {
            return count > steps.length;
        }

        Script turnedBack() {
            Script back = new Script(count);
            for (int i = count - 1; i >= 0; i--) {
                Step step = stepOrNull(i);
                if (step != null) {
                    back.add(step.turnedBack());
                }
            }
            return back;
        }

        int playOn(Bush bush) {
            int fuzz = 0;
            for (int i = 0; i < count; i++) {
                Step step = stepOrNull(i);
                if (step != null) {
                    fuzz += step.playOn(bush);
                }
            }
            return fuzz;
        }
    }

    /** Finds scripts, when the matching is settled: changes a copy of the old tree until it is like the new one. */
    private static final class Finder {
        private final Marks marks;
        private final Bush copy;
        private final Matching matching;
        private final Row twins = new Row(MOST_MARKS);
        private final Row kept = new Row(MOST_MARKS);
        private final Row order = new Row(MOST_MARKS);
        private final Spot nowhere = new Spot(NONE, NONE, NONE);

        Finder(Marks marks, Bush copy, Matching matching) {
            this.marks = marks;
            this.copy = copy;
            this.matching = matching;
        }

        Script findScript(Tree old, Tree young) {
            Script script = new Script(MOST_STEPS);
            copy.takeOver(old);
            for (int place = 0; place < young.count && !script.isTooLong(); place++) {
                nameTwin(old, young, place, script);
            }
            for (int place = 1; place < young.count && !script.isTooLong(); place++) {
                bringTwin(young, place, script);
            }
            removeOthers(young, script);
            return script;
        }

        private void nameTwin(Tree old, Tree young, int place, Script script) {
            int oldPlace = matching.oldOf(place);
            int mark = old.markOf(oldPlace);
            twins.put(place, mark);
            int before = old.worthOf(oldPlace);
            int after = young.worthOf(place);
            if (oldPlace != NONE && before != after) {
                script.add(new Step(UPDATE, mark, before, after, nowhere, nowhere));
            }
        }

        private void bringTwin(Tree young, int place, Script script) {
            int up = young.upOf(place);
            int parent = twins.at(up);
            int ahead = twins.at(young.kid(up, young.rankOf(place) - 1));
            int twin = twins.at(place);
            if (twin == NONE) {
                int mark = young.markOf(place);
                twins.put(place, mark);
                copy.sprout(mark, young.worthOf(place));
                copy.hang(mark, parent, ahead);
                script.add(new Step(PUT, mark, NONE, young.worthOf(place), nowhere, copy.spotOf(mark)));
            } else if (hasToMove(twin, parent, ahead)) {
                Spot was = copy.spotOf(twin);
                copy.cut(twin);
                copy.hang(twin, parent, ahead);
                script.add(new Step(MOVE, twin, NONE, NONE, was, copy.spotOf(twin)));
            }
        }

        private boolean hasToMove(int mark, int parent, int ahead) {
            if (copy.upOf(mark) != parent) {
                return true;
            }
            return !marks.isLoose(parent) && ahead != NONE && copy.standsAhead(mark, ahead);
        }

        private void removeOthers(Tree young, Script script) {
            kept.fill(MOST_MARKS, 0);
            for (int place = 0; place < young.count; place++) {
                kept.put(twins.at(place), 1);
            }
            int nodes = copy.count;
            int mark = copy.root;
            for (int i = 0; i < nodes && mark != NONE; i++) {
                order.put(i, mark);
                mark = copy.nextInOrder(mark, copy.root);
            }
            for (int i = nodes - 1; i >= 0 && !script.isTooLong(); i--) {
                mark = order.at(i);
                if (kept.at(mark) == 0) {
                    script.add(new Step(REMOVE, mark, copy.worthOf(mark), NONE, copy.spotOf(mark), nowhere));
                    copy.erase(mark);
                }
            }
        }
    }

    /** Merges trees by marks, and keeps the conflicts of the last merge. */
    private static final class Merger {
        private static final int FIRST_ROOM = 32;
        // Each round brings a mark back in, or gives one the base's parent that had another one.
        private static final int MOST_ROUNDS = 4 * MOST_MARKS;

        private final Marks marks;
        private final Bush result;
        private final Row policies = new Row(ORDER + 1);
        private final Row inside = new Row(MOST_MARKS);
        private final Row worth = new Row(MOST_MARKS);
        private final Row up = new Row(MOST_MARKS);
        private final Row ringed = new Row(MOST_MARKS);
        private final Row baseOrder = new Row(MOST_MARKS);
        private final Row leftOrder = new Row(MOST_MARKS);
        private final Row rightOrder = new Row(MOST_MARKS);
        private final Row conflictKinds = new Row(FIRST_ROOM);
        private final Row conflictMarks = new Row(FIRST_ROOM);

        Merger(Marks marks, Bush result) {
            this.marks = marks;
            this.result = result;
        }

        Tree mergeTrees(Tree base, Tree left, Tree right) {
            conflictKinds.clear();
            conflictMarks.clear();
            for (int mark = 0; mark < marks.made; mark++) {
                decide(base, left, right, mark);
            }
            mendParents(base);
            int root = base.markOf(0);
            sproutAll(root);
            int mark = root;
            for (int i = 0; i < MOST_MARKS && mark != NONE; i++) {
                hangChildren(base, left, right, mark);
                mark = result.nextInOrder(mark, root);
            }
            return result.freeze();
        }

        private void sproutAll(int root) {
            result.plant(root, worth.at(root));
            for (int mark = 0; mark < marks.made; mark++) {
                if (inside.at(mark) == 1 && mark != root) {
                    result.sprout(mark, worth.at(mark));
                }
            }
        }

        private void list(int kind, int mark) {
            conflictKinds.push(kind);
            conflictMarks.push(mark);
        }

        // ---- which marks are in, with which values and parents

        private void decide(Tree base, Tree left, Tree right, int mark) {
            boolean inLeft = left.holds(mark);
            boolean inRight = right.holds(mark);
            if (inLeft && inRight) {
                int value = choose(VALUE, mark, base.holds(mark), base.worthOfMark(mark),
                        left.worthOfMark(mark), right.worthOfMark(mark));
                int parent = choose(PLACE, mark, base.holds(mark), base.parentOfMark(mark),
                        left.parentOfMark(mark), right.parentOfMark(mark));
                letIn(mark, value, parent);
            } else if (inLeft && staysWithOne(base, left, mark, LEFT)) {
                letIn(mark, left.worthOfMark(mark), left.parentOfMark(mark));
            } else if (inRight && staysWithOne(base, right, mark, RIGHT)) {
                letIn(mark, right.worthOfMark(mark), right.parentOfMark(mark));
            } else {
                inside.put(mark, 0);
                up.put(mark, NONE);
            }
        }

        private void letIn(int mark, int value, int parent) {
            inside.put(mark, 1);
            worth.put(mark, value);
            up.put(mark, parent);
        }

        private int choose(int conflict, int mark, boolean baseHas, int inBase, int inLeft, int inRight) {
            if (inLeft == inRight || baseHas && inRight == inBase) {
                return inLeft;
            }
            if (baseHas && inLeft == inBase) {
                return inRight;
            }
            list(conflict, mark);
            int policy = policies.at(conflict);
            if (policy == RIGHT) {
                return inRight;
            }
            return policy == LEFT || !baseHas ? inLeft : inBase;
        }

        /** Whether a mark that just this one side has is in. */
        private boolean staysWithOne(Tree base, Tree side, int mark, int which) {
            if (!base.holds(mark)) {
                return true;
            }
            if (!isTouched(base, side, mark)) {
                return false;
            }
            list(GONE, mark);
            int policy = policies.at(GONE);
            return policy == NEITHER || policy == which;
        }

        private boolean isTouched(Tree base, Tree side, int mark) {
            if (!base.hasSame(side, mark)) {
                return true;
            }
            int place = side.placeOf(mark);
            for (int rank = 0; rank < side.kidsOf(place); rank++) {
                if (!base.hasUnder(side.markOf(side.kid(place, rank)), mark)) {
                    return true;
                }
            }
            return false;
        }

        // ---- parents that are lost, and rings

        private void mendParents(Tree base) {
            for (int round = 0; round < MOST_ROUNDS; round++) {
                int lost = lowestLost();
                int turning = lost == NONE ? lowestInRing() : NONE;
                if (lost != NONE) {
                    letIn(lost, base.worthOfMark(lost), base.parentOfMark(lost));
                    list(LOST, lost);
                } else if (turning != NONE) {
                    breakRing(base, turning);
                } else {
                    return;
                }
            }
        }

        /** The parent of the lowest mark whose parent is not in. */
        private int lowestLost() {
            for (int mark = 0; mark < marks.made; mark++) {
                int parent = up.at(mark);
                if (inside.at(mark) == 1 && parent != NONE && inside.at(parent) != 1) {
                    return parent;
                }
            }
            return NONE;
        }

        private int lowestInRing() {
            for (int mark = 0; mark < marks.made; mark++) {
                if (inside.at(mark) == 1 && isInRing(mark)) {
                    return mark;
                }
            }
            return NONE;
        }

        private boolean isInRing(int mark) {
            int climber = up.at(mark);
            for (int i = 0; i < MOST_MARKS && climber != NONE; i++) {
                if (climber == mark) {
                    return true;
                }
                climber = up.at(climber);
            }
            return false;
        }

        private void breakRing(Tree base, int start) {
            ringed.fill(MOST_MARKS, 0);
            int climber = start;
            for (int i = 0; i < MOST_MARKS && ringed.at(climber) == 0; i++) {
                ringed.put(climber, 1);
                climber = up.at(climber);
            }
            for (int mark = 0; mark < marks.made; mark++) {
                if (ringed.at(mark) == 1 && base.holds(mark)) {
                    up.put(mark, base.parentOfMark(mark));
                    list(RING, mark);
                }
            }
        }

        // ---- the order of children

        private void hangChildren(Tree base, Tree left, Tree right, int parent) {
            if (!marks.isLoose(parent)) {
                readShared(base, base, parent, baseOrder);
                readShared(base, left, parent, leftOrder);
                readShared(base, right, parent, rightOrder);
                hangShared(leader(base, parent), parent);
            }
            for (int mark = 0; mark < marks.made; mark++) {
                if (up.at(mark) == parent && !result.isChild(mark, parent)) {
                    result.hang(mark, parent, nearestOf(left, right, mark, parent));
                }
            }
        }

        /** Reads which of the children that the base has there, too, a tree has there. */
        private void readShared(Tree base, Tree tree, int parent, Row order) {
            order.clear();
            int place = tree.placeOf(parent);
            for (int rank = 0; rank < tree.kidsOf(place); rank++) {
                int mark = tree.markOf(tree.kid(place, rank));
                if (up.at(mark) == parent && base.hasUnder(mark, parent)) {
                    order.push(mark);
                }
            }
        }

        /** The order in which the children are that the base has there, too. */
        private Row leader(Tree base, int parent) {
            if (!isTurned(base, leftOrder)) {
                return rightOrder;
            }
            if (!isTurned(base, rightOrder) || leftOrder.hasSamePushed(rightOrder)) {
                return leftOrder;
            }
            list(ORDER, parent);
            int policy = policies.at(ORDER);
            return policy == LEFT ? leftOrder : policy == RIGHT ? rightOrder : baseOrder;
        }

        private boolean isTurned(Tree base, Row order) {
            for (int i = 1; i < order.used; i++) {
                if (base.placeOf(order.at(i)) < base.placeOf(order.at(i - 1))) {
                    return true;
                }
            }
            return false;
        }

        private void hangShared(Row leader, int parent) {
            for (int i = 0; i < leader.used; i++) {
                result.hang(leader.at(i), parent, result.lastOf(parent));
            }
            int nearest = NONE;
            for (int i = 0; i < baseOrder.used; i++) {
                int mark = baseOrder.at(i);
                if (!result.isChild(mark, parent)) {
                    result.hang(mark, parent, nearest);
                }
                nearest = mark;
            }
        }

        /** The child behind which one comes that the base does not have there. */
        private int nearestOf(Tree left, Tree right, int mark, int parent) {
            if (!left.hasUnder(mark, parent)) {
                return nearestAhead(right, mark, parent);
            }
            if (!right.hasUnder(mark, parent)) {
                return nearestAhead(left, mark, parent);
            }
            return Math.min(nearestAhead(left, mark, parent), nearestAhead(right, mark, parent));
        }

        private int nearestAhead(Tree side, int mark, int parent) {
            int place = side.placeOf(mark);
            int up = side.upOf(place);
            for (int rank = side.rankOf(place) - 1; rank >= 0; rank--) {
                int sibling = side.markOf(side.kid(up, rank));
                if (result.isChild(sibling, parent)) {
                    return sibling;
                }
            }
            return NONE;
        }
    }

    /** The versions; parents are always made, and so numbered, ahead of what comes behind them. */
    private static final class History {
        private final Row treeNumbers = new Row(MOST_VERSIONS);
        private final Row firsts = new Row(MOST_VERSIONS);
        private final Row seconds = new Row(MOST_VERSIONS);
        private final Row reached = new Row(MOST_VERSIONS);
        private final Row line = new Row(MOST_VERSIONS);
        private int count;
        private int lineLength;

        boolean has(int version) {
            return version >= 0 && version < count;
        }

        int treeNumber(int version) {
            return treeNumbers.at(version);
        }

        int firstOf(int version) {
            return firsts.at(version);
        }

        int secondOf(int version) {
            return seconds.at(version);
        }

        int keep(int tree, int first, int second) {
            int version = count;
            count++;
            treeNumbers.put(version, tree);
            firsts.put(version, first);
            seconds.put(version, second);
            return version;
        }

        /** Whether a version is another one, or comes behind it. */
        boolean reaches(int later, int earlier) {
            reachFrom(later);
            return reached.at(earlier) == 1;
        }

        /** The greatest version that both are, or come behind. */
        int baseOf(int left, int right) {
            for (int version = Math.min(left, right); version >= 0; version--) {
                if (reaches(left, version) && reaches(right, version)) {
                    return version;
                }
            }
            return NONE;
        }

        private void reachFrom(int start) {
            reached.fill(MOST_VERSIONS, 0);
            reached.put(start, 1);
            for (int version = start; version >= 0; version--) {
                if (reached.at(version) == 1) {
                    reached.put(firsts.at(version), 1);
                    reached.put(seconds.at(version), 1);
                }
            }
        }

        /** Lays out the versions from one to a later one by first parents, if they are so. */
        boolean layLine(int from, int to) {
            lineLength = 0;
            int version = to;
            for (int i = 0; i < MOST_VERSIONS && version != NONE; i++) {
                line.put(lineLength, version);
                lineLength++;
                if (version == from) {
                    return true;
                }
                version = firsts.at(version);
            }
            return false;
        }

        /** The line was laid from the later version on; it is read from the earlier one on. */
        int onLine(int number) {
            return line.at(lineLength - 1 - number);
        }
    }
}
