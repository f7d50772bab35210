import java.util.ArrayList;
import java.util.HashMap;
import java.util.IdentityHashMap;
import java.util.List;
import java.util.Map;
import java.util.TreeMap;
import java.util.TreeSet;

/**
 * The document once more, told as naively as can be, with objects, lists and recursion, so that
 * random runs can be compared with the program's answers.
 */
final class Model {
    static final int NONE = -1;

    static final class Node {
        int mark;
        int value;
        Node up;
        final List<Node> kids = new ArrayList<>();
    }

    static final class Step {
        String what;
        int mark;
        int from = NONE;
        int to = NONE;
        int[] was = {NONE, NONE, NONE};
        int[] goes = {NONE, NONE, NONE};
    }

    final List<int[]> marks = new ArrayList<>();
    final List<Node> trees = new ArrayList<>();
    final List<List<Step>> scripts = new ArrayList<>();
    final List<int[]> versions = new ArrayList<>();
    final List<int[]> conflicts = new ArrayList<>();
    final int[] policies = new int[6];
    Node draft;
    int fuzz;

    // ---- small things

    int kind(int mark) {
        return marks.get(mark)[0];
    }

    int identity(int mark) {
        return marks.get(mark)[1];
    }

    boolean loose(int mark) {
        return kind(mark) >= 4;
    }

    boolean sameLook(int a, int b) {
        return kind(a) == kind(b) && identity(a) == identity(b);
    }

    static List<Node> order(Node top) {
        List<Node> all = new ArrayList<>();
        all.add(top);
        for (Node kid : top.kids) {
            all.addAll(order(kid));
        }
        return all;
    }

    static List<Node> below(Node top) {
        List<Node> all = order(top);
        return all.subList(1, all.size());
    }

    static Node seek(Node root, int mark) {
        if (root == null) {
            return null;
        }
        for (Node node : order(root)) {
            if (node.mark == mark) {
                return node;
            }
        }
        return null;
    }

    static Node deepCopy(Node node) {
        Node copy = new Node();
        copy.mark = node.mark;
        copy.value = node.value;
        for (Node kid : node.kids) {
            Node k = deepCopy(kid);
            k.up = copy;
            copy.kids.add(k);
        }
        return copy;
    }

    void insert(Node node, Node parent, int place) {
        node.up = parent;
        if (loose(parent.mark)) {
            parent.kids.add(node);
            parent.kids.sort((a, b) -> a.mark - b.mark);
        } else {
            parent.kids.add(place, node);
        }
    }

    void detach(Node node) {
        node.up.kids.remove(node);
        node.up = null;
    }

    static int[] spot(Node node) {
        int i = node.up.kids.indexOf(node);
        int ahead = i > 0 ? node.up.kids.get(i - 1).mark : NONE;
        int behind = i + 1 < node.up.kids.size() ? node.up.kids.get(i + 1).mark : NONE;
        return new int[] {node.up.mark, ahead, behind};
    }

    Node tree(int number) {
        if (number < 0 || number >= trees.size()) {
            throw new IndexOutOfBoundsException();
        }
        return trees.get(number);
    }

    List<Step> script(int number) {
        if (number < 0 || number >= scripts.size()) {
            throw new IndexOutOfBoundsException();
        }
        return scripts.get(number);
    }

    int[] versionAt(int number) {
        if (number < 0 || number >= versions.size()) {
            throw new IndexOutOfBoundsException();
        }
        return versions.get(number);
    }

    Node drafted(int mark) {
        Node node = seek(draft, mark);
        if (node == null) {
            throw new IndexOutOfBoundsException();
        }
        return node;
    }

    static void state(boolean holds) {
        if (!holds) {
            throw new IllegalStateException();
        }
    }

    static void argument(boolean holds) {
        if (!holds) {
            throw new IllegalArgumentException();
        }
    }

    static void index(boolean holds) {
        if (!holds) {
            throw new IndexOutOfBoundsException();
        }
    }

    int newMark(int kind, int identity) {
        marks.add(new int[] {kind, identity});
        return marks.size() - 1;
    }

    static void looks(int kind, int value, int identity) {
        argument(kind >= 0 && kind <= 5 && value >= 0 && value <= 99 && identity >= -1 && identity <= 99);
    }

    // ---- drafts

    int begin(int kind, int value, int identity) {
        looks(kind, value, identity);
        state(marks.size() < 300);
        draft = new Node();
        draft.mark = newMark(kind, identity);
        draft.value = value;
        return draft.mark;
    }

    int copy(int tree) {
        draft = deepCopy(tree(tree));
        return order(draft).size();
    }

    int node(int parent, int place, int kind, int value, int identity) {
        Node up = drafted(parent);
        index(loose(parent) || place >= 0 && place <= up.kids.size());
        looks(kind, value, identity);
        state(order(draft).size() < 24 && marks.size() < 300);
        Node node = new Node();
        node.mark = newMark(kind, identity);
        node.value = value;
        insert(node, up, place);
        return node.mark;
    }

    int set(int mark, int value) {
        Node node = drafted(mark);
        argument(value >= 0 && value <= 99);
        int before = node.value;
        node.value = value;
        return before;
    }

    int move(int mark, int parent, int place) {
        Node node = drafted(mark);
        Node up = drafted(parent);
        int others = 0;
        for (Node kid : up.kids) {
            others += kid == node ? 0 : 1;
        }
        index(loose(parent) || place >= 0 && place <= others);
        state(node != draft && !order(node).contains(up));
        int before = node.up.mark;
        detach(node);
        insert(node, up, place);
        return before;
    }

    int drop(int mark) {
        Node node = drafted(mark);
        state(node != draft);
        detach(node);
        return order(node).size();
    }

    int seal() {
        state(draft != null && trees.size() < 40);
        return keep(deepCopy(draft));
    }

    int keep(Node tree) {
        trees.add(tree);
        return trees.size() - 1;
    }

    // ---- alike

    /** The nodes of one paired with those of the other, or null if they are not alike. */
    Map<Node, Node> alike(Node one, Node other) {
        if (!sameLook(one.mark, other.mark) || one.value != other.value || one.kids.size() != other.kids.size()) {
            return null;
        }
        Map<Node, Node> pairs = new IdentityHashMap<>();
        pairs.put(one, other);
        List<Node> left = new ArrayList<>(other.kids);
        for (Node kid : one.kids) {
            Map<Node, Node> found = null;
            for (int i = 0; i < left.size() && found == null; i++) {
                if (i > 0 && !loose(one.mark)) {
                    break;
                }
                found = alike(kid, left.get(i));
                if (found != null) {
                    left.remove(i);
                }
            }
            if (found == null) {
                return null;
            }
            pairs.putAll(found);
        }
        return pairs;
    }

    boolean areAlike(int a, int b) {
        Node one = tree(a);
        Node two = tree(b);
        return alike(one, two) != null;
    }

    boolean areSame(int a, int b) {
        Node one = tree(a);
        Node two = tree(b);
        return told(one).equals(told(two));
    }

    static String told(Node node) {
        StringBuilder text = new StringBuilder();
        text.append(node.mark).append(':').append(node.value).append('(');
        for (Node kid : node.kids) {
            text.append(told(kid)).append(' ');
        }
        return text.append(')').toString();
    }

    // ---- matching

    final class Matched {
        final Map<Node, Node> toNew = new IdentityHashMap<>();
        final Map<Node, Node> toOld = new IdentityHashMap<>();
        final List<Node> olds;
        final List<Node> news;

        Matched(Node oldRoot, Node newRoot) {
            olds = order(oldRoot);
            news = order(newRoot);
            one();
            if (!toNew.containsKey(oldRoot) && !toOld.containsKey(newRoot)) {
                put(oldRoot, newRoot);
            }
            three();
            four();
            five(true);
            five(false);
            six();
        }

        void put(Node o, Node n) {
            if (toNew.containsKey(o) || toOld.containsKey(n)) {
                throw new AssertionError("matched twice");
            }
            toNew.put(o, n);
            toOld.put(n, o);
        }

        boolean may(Node o, Node n) {
            return !toNew.containsKey(o) && !toOld.containsKey(n) && sameLook(o.mark, n.mark);
        }

        void one() {
            for (Node o : olds) {
                for (Node n : news) {
                    if (o.mark == n.mark) {
                        put(o, n);
                    }
                }
            }
        }

        void three() {
            for (Node o : olds) {
                for (Node n : news) {
                    if (identity(o.mark) != NONE && may(o, n)) {
                        put(o, n);
                    }
                }
            }
        }

        boolean untouched(Node top, Map<Node, Node> by) {
            for (Node x : order(top)) {
                if (by.containsKey(x)) {
                    return false;
                }
            }
            return true;
        }

        void four() {
            for (Node o : olds) {
                if (!untouched(o, toNew)) {
                    continue;
                }
                for (Node n : news) {
                    Map<Node, Node> pairs = untouched(n, toOld) ? alike(o, n) : null;
                    if (pairs != null) {
                        pairs.forEach(this::put);
                        break;
                    }
                }
            }
        }

        void five(boolean byValue) {
            for (Node n : news) {
                Node o = toOld.get(n);
                if (o == null) {
                    continue;
                }
                for (Node kid : n.kids) {
                    for (Node oldKid : o.kids) {
                        if (may(oldKid, kid) && (!byValue || kid.value == oldKid.value)) {
                            put(oldKid, kid);
                            break;
                        }
                    }
                }
            }
        }

        float likeness(Node o, Node n) {
            int both = below(o).size() + below(n).size();
            int common = 0;
            for (Node x : below(o)) {
                common += toNew.containsKey(x) && below(n).contains(toNew.get(x)) ? 1 : 0;
            }
            return both == 0 ? 0f : (float) (2 * common) / (float) both;
        }

        void six() {
            for (int i = olds.size() - 1; i >= 0; i--) {
                Node o = olds.get(i);
                Node best = null;
                for (Node n : news) {
                    if (may(o, n) && (best == null || likeness(o, n) > likeness(o, best))) {
                        best = n;
                    }
                }
                if (best != null && likeness(o, best) >= 0.5f) {
                    put(o, best);
                }
            }
        }
    }

    int match(int from, int to, int mark) {
        Node old = tree(from);
        Node young = tree(to);
        Node node = seek(old, mark);
        index(node != null);
        state(sameLook(old.mark, young.mark));
        Node with = new Matched(old, young).toNew.get(node);
        return with == null ? NONE : with.mark;
    }

    float likeness(int from, int to, int mark, int other) {
        Node old = tree(from);
        Node young = tree(to);
        Node o = seek(old, mark);
        Node n = seek(young, other);
        index(o != null && n != null);
        state(sameLook(old.mark, young.mark));
        return new Matched(old, young).likeness(o, n);
    }

    // ---- scripts

    int find(int from, int to) {
        Node old = tree(from);
        Node young = tree(to);
        state(sameLook(old.mark, young.mark) && scripts.size() < 40);
        Matched matched = new Matched(old, young);
        Node copy = deepCopy(old);
        Map<Node, Node> twin = new IdentityHashMap<>();
        List<Step> steps = new ArrayList<>();
        for (Node n : order(young)) {
            if (matched.toOld.containsKey(n)) {
                Node c = seek(copy, matched.toOld.get(n).mark);
                twin.put(n, c);
                if (c.value != n.value) {
                    Step step = new Step();
                    step.what = "update";
                    step.mark = c.mark;
                    step.from = c.value;
                    step.to = n.value;
                    c.value = n.value;
                    steps.add(step);
                }
            }
        }
        for (Node n : below(young)) {
            place(n, twin, steps);
        }
        List<Node> all = order(copy);
        for (int i = all.size() - 1; i >= 0; i--) {
            Node c = all.get(i);
            if (!twin.containsValue(c)) {
                Step step = new Step();
                step.what = "remove";
                step.mark = c.mark;
                step.from = c.value;
                step.was = spot(c);
                steps.add(step);
                if (!c.kids.isEmpty()) {
                    throw new AssertionError("removed with children");
                }
                detach(c);
            }
        }
        state(steps.size() <= 100);
        if (alike(copy, young) == null) {
            throw new AssertionError("the script does not lead to the new tree");
        }
        scripts.add(steps);
        return scripts.size() - 1;
    }

    void place(Node n, Map<Node, Node> twin, List<Step> steps) {
        int i = n.up.kids.indexOf(n);
        Node parent = twin.get(n.up);
        Node ahead = i > 0 ? twin.get(n.up.kids.get(i - 1)) : null;
        Node c = twin.get(n);
        Step step = new Step();
        if (c == null) {
            c = new Node();
            c.mark = n.mark;
            c.value = n.value;
            twin.put(n, c);
            step.what = "put";
            step.to = n.value;
        } else if (c.up != parent || !loose(parent.mark) && ahead != null
                && parent.kids.indexOf(c) < parent.kids.indexOf(ahead)) {
            step.what = "move";
            step.was = spot(c);
            detach(c);
        } else {
            return;
        }
        step.mark = c.mark;
        insert(c, parent, ahead == null ? 0 : parent.kids.indexOf(ahead) + 1);
        step.goes = spot(c);
        steps.add(step);
    }

    int turn(int number) {
        List<Step> steps = script(number);
        state(scripts.size() < 40);
        List<Step> back = new ArrayList<>();
        for (Step step : steps) {
            Step turned = new Step();
            turned.what = step.what.equals("put") ? "remove" : step.what.equals("remove") ? "put" : step.what;
            turned.mark = step.mark;
            turned.from = step.to;
            turned.to = step.from;
            turned.was = step.goes;
            turned.goes = step.was;
            back.add(0, turned);
        }
        scripts.add(back);
        return scripts.size() - 1;
    }

    int apply(int number, int tree) {
        List<Step> steps = script(number);
        Node root = tree(tree);
        state(trees.size() < 40);
        root = deepCopy(root);
        fuzz = 0;
        for (Step step : steps) {
            fuzz += take(step, root);
        }
        return keep(root);
    }

    int take(Step step, Node root) {
        Node node = seek(root, step.mark);
        if (step.what.equals("put") ? node != null : node == null) {
            return 10;
        }
        if (step.what.equals("update")) {
            int cost = node.value == step.from ? 0 : 1;
            node.value = step.to;
            return cost;
        }
        if (step.what.equals("remove")) {
            if (node == root || !node.kids.isEmpty()) {
                return 10;
            }
            detach(node);
            return 0;
        }
        Node parent = seek(root, step.goes[0]);
        if (parent == null || node != null && order(node).contains(parent)) {
            return 10;
        }
        if (node == null) {
            node = new Node();
            node.mark = step.mark;
            node.value = step.to;
        } else {
            detach(node);
        }
        Node ahead = seek(root, step.goes[1]);
        Node behind = seek(root, step.goes[2]);
        int place = parent.kids.size();
        if (ahead != null && ahead.up == parent) {
            place = parent.kids.indexOf(ahead) + 1;
        } else if (behind != null && behind.up == parent) {
            place = parent.kids.indexOf(behind);
        }
        insert(node, parent, place);
        if (loose(parent.mark)) {
            return 0;
        }
        int[] stands = spot(node);
        int cost = 0;
        cost += step.goes[1] != NONE && step.goes[1] != stands[1] ? 1 : 0;
        cost += step.goes[2] != NONE && step.goes[2] != stands[2] ? 1 : 0;
        return cost;
    }

    Step step(int script, int number) {
        List<Step> steps = script(script);
        index(number >= 0 && number < steps.size());
        return steps.get(number);
    }

    int stepKind(int script, int number) {
        return List.of("update", "put", "move", "remove").indexOf(step(script, number).what);
    }

    int stepTo(int script, int number, boolean isWhat) {
        Step step = step(script, number);
        return step.what.equals("put") || step.what.equals("move") ? step.goes[isWhat ? 0 : 1] : NONE;
    }

    // ---- merging

    int setPolicy(int conflict, int policy) {
        argument((conflict <= 2 && conflict >= 0 || conflict == 5) && policy >= 0 && policy <= 2);
        int before = policies[conflict];
        policies[conflict] = policy;
        return before;
    }

    static Map<Integer, Node> byMark(Node root) {
        Map<Integer, Node> all = new HashMap<>();
        for (Node node : order(root)) {
            all.put(node.mark, node);
        }
        return all;
    }

    static int upMark(Node node) {
        return node.up == null ? NONE : node.up.mark;
    }

    final class Merging {
        final Map<Integer, Node> base;
        final Map<Integer, Node> left;
        final Map<Integer, Node> right;
        /** Of the marks that are in: value and parent. */
        final TreeMap<Integer, int[]> in = new TreeMap<>();

        Merging(Node base, Node left, Node right) {
            this.base = byMark(base);
            this.left = byMark(left);
            this.right = byMark(right);
            conflicts.clear();
            TreeSet<Integer> all = new TreeSet<>(this.base.keySet());
            all.addAll(this.left.keySet());
            all.addAll(this.right.keySet());
            for (int mark : all) {
                decide(mark);
            }
            mend();
        }

        void decide(int mark) {
            Node b = base.get(mark);
            Node l = left.get(mark);
            Node r = right.get(mark);
            if (l == null && r == null) {
                return;
            }
            if (l != null && r != null) {
                int value = pick(1, mark, b == null ? null : b.value, l.value, r.value);
                int up = pick(2, mark, b == null ? null : upMark(b), upMark(l), upMark(r));
                in.put(mark, new int[] {value, up});
                return;
            }
            Node has = l != null ? l : r;
            if (b != null) {
                if (!touched(b, has)) {
                    return;
                }
                conflicts.add(new int[] {0, mark});
                if (policies[0] == 1 && l == null || policies[0] == 2 && r == null) {
                    return;
                }
            }
            in.put(mark, new int[] {has.value, upMark(has)});
        }

        boolean touched(Node b, Node has) {
            if (b.value != has.value || upMark(b) != upMark(has)) {
                return true;
            }
            for (Node kid : has.kids) {
                Node before = base.get(kid.mark);
                if (before == null || upMark(before) != has.mark) {
                    return true;
                }
            }
            return false;
        }

        int pick(int conflict, int mark, Integer b, int l, int r) {
            if (l == r) {
                return l;
            }
            if (b != null && b == l) {
                return r;
            }
            if (b != null && b == r) {
                return l;
            }
            conflicts.add(new int[] {conflict, mark});
            switch (policies[conflict]) {
                case 1:
                    return l;
                case 2:
                    return r;
                default:
                    return b == null ? l : b;
            }
        }

        void mend() {
            boolean again = true;
            while (again) {
                again = lost() || ring();
            }
        }

        boolean lost() {
            for (int mark : in.keySet()) {
                int up = in.get(mark)[1];
                if (up != NONE && !in.containsKey(up)) {
                    Node b = base.get(up);
                    in.put(up, new int[] {b.value, upMark(b)});
                    conflicts.add(new int[] {3, up});
                    return true;
                }
            }
            return false;
        }

        boolean ring() {
            for (int mark : in.keySet()) {
                TreeSet<Integer> seen = new TreeSet<>();
                int at = mark;
                while (at != NONE && seen.add(at)) {
                    at = in.get(at)[1];
                }
                if (at == mark) {
                    for (int x : seen) {
                        if (base.containsKey(x)) {
                            in.get(x)[1] = upMark(base.get(x));
                            conflicts.add(new int[] {4, x});
                        }
                    }
                    return true;
                }
            }
            return false;
        }

        Node build(int mark) {
            Node node = new Node();
            node.mark = mark;
            node.value = in.get(mark)[0];
            for (int kid : loose(mark) ? members(mark) : arranged(mark)) {
                Node k = build(kid);
                k.up = node;
                node.kids.add(k);
            }
            return node;
        }

        List<Integer> members(int parent) {
            List<Integer> all = new ArrayList<>();
            for (int mark : in.keySet()) {
                if (in.get(mark)[1] == parent) {
                    all.add(mark);
                }
            }
            return all;
        }

        List<Integer> kidsIn(Map<Integer, Node> tree, int parent) {
            List<Integer> all = new ArrayList<>();
            if (tree.containsKey(parent)) {
                for (Node kid : tree.get(parent).kids) {
                    all.add(kid.mark);
                }
            }
            return all;
        }

        List<Integer> arranged(int parent) {
            List<Integer> wanted = members(parent);
            List<Integer> ofBase = kidsIn(base, parent);
            ofBase.retainAll(wanted);
            List<Integer> ofLeft = kidsIn(left, parent);
            ofLeft.retainAll(ofBase);
            List<Integer> ofRight = kidsIn(right, parent);
            ofRight.retainAll(ofBase);
            List<Integer> here = new ArrayList<>(chosen(parent, ofBase, ofLeft, ofRight));
            for (int i = 0; i < ofBase.size(); i++) {
                if (!here.contains(ofBase.get(i))) {
                    here.add(here.indexOf(nearest(ofBase, ofBase.get(i), here)) + 1, ofBase.get(i));
                }
            }
            for (int mark : wanted) {
                if (!here.contains(mark)) {
                    List<Integer> onLeft = kidsIn(left, parent);
                    List<Integer> onRight = kidsIn(right, parent);
                    int ahead;
                    if (onLeft.contains(mark) && onRight.contains(mark)) {
                        ahead = Math.min(nearest(onLeft, mark, here), nearest(onRight, mark, here));
                    } else {
                        ahead = nearest(onLeft.contains(mark) ? onLeft : onRight, mark, here);
                    }
                    here.add(ahead == NONE ? 0 : here.indexOf(ahead) + 1, mark);
                }
            }
            return here;
        }

        int nearest(List<Integer> row, int mark, List<Integer> here) {
            int i = row.indexOf(mark);
            if (i < 0) {
                throw new AssertionError("neither side has it there");
            }
            for (i--; i >= 0; i--) {
                if (here.contains(row.get(i))) {
                    return row.get(i);
                }
            }
            return NONE;
        }

        boolean turned(List<Integer> ofBase, List<Integer> ofSide) {
            for (int i = 0; i < ofSide.size(); i++) {
                for (int j = i + 1; j < ofSide.size(); j++) {
                    if (ofBase.indexOf(ofSide.get(i)) > ofBase.indexOf(ofSide.get(j))) {
                        return true;
                    }
                }
            }
            return false;
        }

        List<Integer> chosen(int parent, List<Integer> ofBase, List<Integer> ofLeft, List<Integer> ofRight) {
            if (!turned(ofBase, ofRight)) {
                return ofLeft;
            }
            if (!turned(ofBase, ofLeft) || ofLeft.equals(ofRight)) {
                return ofRight;
            }
            conflicts.add(new int[] {5, parent});
            return policies[5] == 1 ? ofLeft : policies[5] == 2 ? ofRight : ofBase;
        }
    }

    int merge(int b, int l, int r) {
        Node base = tree(b);
        Node left = tree(l);
        Node right = tree(r);
        state(base.mark == left.mark && base.mark == right.mark && trees.size() < 40);
        return keep(new Merging(base, left, right).build(base.mark));
    }

    // ---- versions

    int version(int tree, int first, int second) {
        tree(tree);
        if (first != NONE) {
            versionAt(first);
        }
        if (second != NONE) {
            versionAt(second);
        }
        argument(!(first == NONE && second != NONE) && !(first != NONE && first == second));
        state(versions.size() < 30);
        versions.add(new int[] {tree, first, second});
        return versions.size() - 1;
    }

    TreeSet<Integer> past(int version) {
        TreeSet<Integer> all = new TreeSet<>();
        int[] v = versions.get(version);
        for (int i = 1; i <= 2; i++) {
            if (v[i] != NONE) {
                all.add(v[i]);
                all.addAll(past(v[i]));
            }
        }
        return all;
    }

    int mergeVersions(int left, int right) {
        versionAt(left);
        versionAt(right);
        argument(left != right);
        TreeSet<Integer> both = past(left);
        both.add(left);
        TreeSet<Integer> others = past(right);
        others.add(right);
        both.retainAll(others);
        state(!both.isEmpty() && versions.size() < 30);
        int tree = merge(versions.get(both.last())[0], versions.get(left)[0], versions.get(right)[0]);
        versions.add(new int[] {tree, left, right});
        return versions.size() - 1;
    }

    int takeBack(int version, int head) {
        int[] back = versionAt(version);
        int[] top = versionAt(head);
        state(back[1] != NONE && past(head).contains(version) && versions.size() < 30);
        int tree = merge(back[0], top[0], versions.get(back[1])[0]);
        versions.add(new int[] {tree, head, NONE});
        return versions.size() - 1;
    }

    Node inVersion(int version, int mark) {
        return version == NONE ? null : seek(trees.get(versions.get(version)[0]), mark);
    }

    int touched(int version, int mark) {
        versionAt(version);
        index(mark >= 0 && mark < marks.size());
        Node here = inVersion(version, mark);
        if (here == null) {
            return NONE;
        }
        for (int i = 1; i <= 2; i++) {
            int up = versions.get(version)[i];
            Node there = inVersion(up, mark);
            if (there != null && there.value == here.value && upMark(there) == upMark(here)) {
                return touched(up, mark);
            }
        }
        return version;
    }

    boolean shows(int version, int kind, int value) {
        for (Node node : order(trees.get(versions.get(version)[0]))) {
            if (kind(node.mark) == kind && node.value == value) {
                return true;
            }
        }
        return false;
    }

    int look(int from, int to, int kind, int value) {
        versionAt(from);
        versionAt(to);
        argument(kind >= 0 && kind <= 5 && value >= 0 && value <= 99);
        List<Integer> possible = new ArrayList<>();
        int at = to;
        while (at != NONE) {
            possible.add(0, at);
            if (at == from) {
                break;
            }
            at = versions.get(at)[1];
        }
        state(at == from);
        while (possible.size() > 1) {
            int middle = (possible.size() - 1) / 2;
            if (shows(possible.get(middle), kind, value)) {
                possible = possible.subList(0, middle + 1);
            } else {
                possible = possible.subList(middle + 1, possible.size());
            }
        }
        return shows(possible.get(0), kind, value) ? possible.get(0) : NONE;
    }

    // ---- questions

    int size(int tree) {
        return order(tree(tree)).size();
    }

    int markAt(int tree, int place) {
        List<Node> all = order(tree(tree));
        index(place >= 0 && place < all.size());
        return all.get(place).mark;
    }

    int value(int tree, int mark) {
        Node root = tree(tree);
        index(mark >= 0 && mark < marks.size());
        Node node = seek(root, mark);
        return node == null ? NONE : node.value;
    }

    int parent(int tree, int mark) {
        Node root = tree(tree);
        index(mark >= 0 && mark < marks.size());
        Node node = seek(root, mark);
        return node == null ? NONE : upMark(node);
    }

    int conflict(int number, int part) {
        index(number >= 0 && number < conflicts.size());
        return conflicts.get(number)[part];
    }
}
