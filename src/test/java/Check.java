import java.util.ArrayList;
import java.util.Arrays;
import java.util.List;
import java.util.function.IntFunction;
import java.util.function.Supplier;

/** What the tests need: trees told as texts, and a word when an answer is not the one that is due. */
final class Check {
    private static int wrong;
    private static String name = "";

    private Check() {
    }

    static void end(int wrongAnswers) {
        System.out.println(wrongAnswers == 0 ? "all answers are as due" : wrongAnswers + " answers are not as due");
        if (wrongAnswers != 0) {
            System.exit(1);
        }
    }

    static void end() {
        end(wrong);
    }

    static void is(String what, Object got, Object due) {
        if (!due.equals(got)) {
            wrong++;
            System.out.println(name + what + " answered " + got + ", due is " + due);
        }
    }

    /** What the test finds wrong is told with this name; it is wrong, too, if the test can't go on. */
    static void named(String test, Runnable run) {
        name = test;
        try {
            run.run();
        } catch (RuntimeException e) {
            is("the test", e.toString(), "an answer");
        }
        name = "";
    }

    /** Numbers beside those that are allowed: right beside them, at the ends, and such as come to be inside by wrapping. */
    static int[] outside(int low, int high) {
        int[] all = {low - 1, high + 1, Integer.MIN_VALUE, Integer.MAX_VALUE, Integer.MIN_VALUE + low, low + 256,
            low + 65536, ~high - 1, -high - 2};
        return Arrays.stream(all).filter(i -> i < low || i > high).distinct().toArray();
    }

    /** The call has to throw just this exception, and to change nothing that later calls show. */
    static void refused(Shop x, String what, Class<?> due, Supplier<?> call) {
        is(what, x.outcome(call), due);
        is("what is told apart after " + what, x.difference(call), "");
    }

    static void index(Shop x, String what, Supplier<?> call) {
        refused(x, what, IndexOutOfBoundsException.class, call);
    }

    /** No number but those from low to high is taken for an index. */
    static void indexes(Shop x, String what, int low, int high, IntFunction<?> call) {
        for (int i : outside(low, high)) {
            index(x, what + " " + i, () -> call.apply(i));
        }
    }

    /** No number but those from low to high is taken for an argument. */
    static void arguments(Shop x, String what, int low, int high, IntFunction<?> call) {
        for (int i : outside(low, high)) {
            argument(x, what + " " + i, () -> call.apply(i));
        }
    }

    static void argument(Shop x, String what, Supplier<?> call) {
        refused(x, what, IllegalArgumentException.class, call);
    }

    static void state(Shop x, String what, Supplier<?> call) {
        refused(x, what, IllegalStateException.class, call);
    }

    /** A question has to be answered so, and to change nothing that later calls show. */
    static void asked(Shop x, String what, Object due, Supplier<?> call) {
        is(what, x.outcome(call), due);
        is("what is told apart after " + what, x.difference(call), "");
    }

    /**
     * Drafts and seals a tree: a node is told as kind.value, then #identity, if it has one, then its
     * children between brackets. Marks are given in the order of the text.
     */
    static int grow(Shop x, String text) {
        draft(x, text);
        return x.seal();
    }

    /** Answers the mark of the root. */
    static int draft(Shop x, String text) {
        List<Integer> open = new ArrayList<>();
        List<Integer> children = new ArrayList<>();
        int root = -1;
        int last = -1;
        for (int i = 0; i < text.length();) {
            char c = text.charAt(i);
            if (c == '(') {
                open.add(last);
                children.add(0);
                i++;
            } else if (c == ')') {
                open.remove(open.size() - 1);
                children.remove(children.size() - 1);
                i++;
            } else if (c == ' ') {
                i++;
            } else {
                int end = i;
                while (end < text.length() && "() ".indexOf(text.charAt(end)) < 0) {
                    end++;
                }
                int[] looks = looks(text.substring(i, end));
                if (open.isEmpty()) {
                    last = x.begin(looks[0], looks[1], looks[2]);
                    root = last;
                } else {
                    int deep = open.size() - 1;
                    last = x.node(open.get(deep), children.get(deep), looks[0], looks[1], looks[2]);
                    children.set(deep, children.get(deep) + 1);
                }
                i = end;
            }
        }
        return root;
    }

    /** Begins so many drafts, that there are as many marks. */
    static void begun(Shop x, int drafts) {
        for (int i = 0; i < drafts; i++) {
            x.begin(0, 0, TwigPatch.NONE);
        }
    }

    private static int[] looks(String word) {
        String[] parts = word.split("[.#]");
        return new int[] {Integer.parseInt(parts[0]), Integer.parseInt(parts[1]),
            parts.length > 2 ? Integer.parseInt(parts[2]) : TwigPatch.NONE};
    }

    /** A tree as a text: each node as mark:value, its children between brackets. */
    static String told(Shop x, int tree) {
        StringBuilder text = new StringBuilder();
        List<Integer> path = new ArrayList<>();
        for (int place = 0; place < x.size(tree); place++) {
            int mark = x.markAt(tree, place);
            int parent = x.parent(tree, mark);
            if (place > 0) {
                if (path.get(path.size() - 1) == parent) {
                    text.append('(');
                } else {
                    path.remove(path.size() - 1);
                    while (path.get(path.size() - 1) != parent) {
                        path.remove(path.size() - 1);
                        text.append(')');
                    }
                    text.append(' ');
                }
            }
            path.add(mark);
            text.append(mark).append(':').append(x.value(tree, mark));
        }
        for (int i = 1; i < path.size(); i++) {
            text.append(')');
        }
        return text.toString();
    }

    static void tree(String what, Shop x, int tree, String due) {
        is(what, told(x, tree), due);
    }

    /** A script as a text, as far as it can be asked. */
    static String script(Shop x, int script) {
        StringBuilder text = new StringBuilder();
        for (int i = 0; i < x.steps(script); i++) {
            String[] kinds = {"update", "put", "move", "remove"};
            text.append(i > 0 ? ", " : "").append(kinds[x.stepKind(script, i)]).append(' ');
            text.append(x.stepMark(script, i));
            int parent = x.stepTo(script, i, true);
            int ahead = x.stepTo(script, i, false);
            if (parent != TwigPatch.NONE || ahead != TwigPatch.NONE) {
                text.append(" under ").append(parent);
                text.append(ahead == TwigPatch.NONE ? "" : " behind " + ahead);
            }
        }
        return text.toString();
    }

    /** The conflicts of the last merge as a text. */
    static String conflicts(Shop x) {
        StringBuilder text = new StringBuilder();
        String[] kinds = {"GONE", "VALUE", "PLACE", "LOST", "RING", "ORDER"};
        for (int i = 0; i < x.conflicts(); i++) {
            text.append(i > 0 ? ", " : "").append(kinds[x.conflictKind(i)]).append(' ').append(x.conflictMark(i));
        }
        return text.toString();
    }
}
