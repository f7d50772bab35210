import java.util.ArrayList;
import java.util.List;
import java.util.function.Supplier;

/** What the tests need: trees told as texts, and a word when an answer is not the one that is due. */
final class Check {
    private static int wrong;

    private Check() {
    }

    static void end(int wrongAnswers) {
        System.out.println(wrongAnswers == 0 ? "all answers are as due" : wrongAnswers + " answers are not as due");
        if (wrongAnswers != 0) {
            System.exit(1);
        }
    }

    static void end() {
        end(wrong);
    }

    static void is(String what, Object got, Object due) {
        if (!due.equals(got)) {
            wrong++;
            System.out.println(what + " answered " + got + ", due is " + due);
        }
    }

    /** The call has to throw just this exception, and to change nothing that can be seen. */
    static void refused(TwigPatch x, String what, Class<?> due, Supplier<?> call) {
        String before = portrait(x);
        try {
            is(what, call.get(), due);
        } catch (RuntimeException e) {
            is(what, e.getClass(), due);
        }
        is("what is there after " + what, portrait(x), before);
    }

    static void index(TwigPatch x, String what, Supplier<?> call) {
        refused(x, what, IndexOutOfBoundsException.class, call);
    }

    static void argument(TwigPatch x, String what, Supplier<?> call) {
        refused(x, what, IllegalArgumentException.class, call);
    }

    static void state(TwigPatch x, String what, Supplier<?> call) {
        refused(x, what, IllegalStateException.class, call);
    }

    /**
     * Drafts and seals a tree: a node is told as kind.value, then #identity, if it has one, then its
     * children between brackets. Marks are given in the order of the text.
     */
    static int grow(TwigPatch x, String text) {
        draft(x, text);
        return x.seal();
    }

    /** Answers the mark of the root. */
    static int draft(TwigPatch x, String text) {
        List<Integer> open = new ArrayList<>();
        List<Integer> children = new ArrayList<>();
        int root = -1;
        int last = -1;
        for (int i = 0; i < text.length();) {
            char c = text.charAt(i);
            if (c == '(') {
                open.add(last);
                children.add(0);
                i++;
            } else if (c == ')') {
                open.remove(open.size() - 1);
                children.remove(children.size() - 1);
                i++;
            } else if (c == ' ') {
                i++;
            } else {
                int end = i;
                while (end < text.length() && "() ".indexOf(text.charAt(end)) < 0) {
                    end++;
                }
                int[] looks = looks(text.substring(i, end));
                if (open.isEmpty()) {
                    last = x.begin(looks[0], looks[1], looks[2]);
                    root = last;
                } else {
                    int deep = open.size() - 1;
                    last = x.node(open.get(deep), children.get(deep), looks[0], looks[1], looks[2]);
                    children.set(deep, children.get(deep) + 1);
                }
                i = end;
            }
        }
        return root;
    }

    private static int[] looks(String word) {
        String[] parts = word.split("[.#]");
        return new int[] {Integer.parseInt(parts[0]), Integer.parseInt(parts[1]),
            parts.length > 2 ? Integer.parseInt(parts[2]) : TwigPatch.NONE};
    }

    /** A tree as a text: each node as mark:value, its children between brackets. */
    static String told(TwigPatch x, int tree) {
        StringBuilder text = new StringBuilder();
        List<Integer> path = new ArrayList<>();
        for (int place = 0; place < x.size(tree); place++) {
            int mark = x.markAt(tree, place);
            int parent = x.parent(tree, mark);
            if (place > 0) {
                if (path.get(path.size() - 1) == parent) {
                    text.append('(');
                } else {
                    path.remove(path.size() - 1);
                    while (path.get(path.size() - 1) != parent) {
                        path.remove(path.size() - 1);
                        text.append(')');
                    }
                    text.append(' ');
                }
            }
            path.add(mark);
            text.append(mark).append(':').append(x.value(tree, mark));
        }
        for (int i = 1; i < path.size(); i++) {
            text.append(')');
        }
        return text.toString();
    }

    static void tree(String what, TwigPatch x, int tree, String due) {
        is(what, told(x, tree), due);
    }

    /** A script as a text, as far as it can be asked. */
    static String script(TwigPatch x, int script) {
        StringBuilder text = new StringBuilder();
        for (int i = 0; i < x.steps(script); i++) {
            String[] kinds = {"update", "put", "move", "remove"};
            text.append(i > 0 ? ", " : "").append(kinds[x.stepKind(script, i)]).append(' ');
            text.append(x.stepMark(script, i));
            int parent = x.stepTo(script, i, true);
            int ahead = x.stepTo(script, i, false);
            if (parent != TwigPatch.NONE || ahead != TwigPatch.NONE) {
                text.append(" under ").append(parent);
                text.append(ahead == TwigPatch.NONE ? "" : " behind " + ahead);
            }
        }
        return text.toString();
    }

    /** The conflicts of the last merge as a text. */
    static String conflicts(TwigPatch x) {
        StringBuilder text = new StringBuilder();
        String[] kinds = {"GONE", "VALUE", "PLACE", "LOST", "RING", "ORDER"};
        for (int i = 0; i < x.conflicts(); i++) {
            text.append(i > 0 ? ", " : "").append(kinds[x.conflictKind(i)]).append(' ').append(x.conflictMark(i));
        }
        return text.toString();
    }

    /** All that can be asked without changing anything. */
    static String portrait(TwigPatch x) {
        StringBuilder text = new StringBuilder();
        for (int t = 0; t < x.trees(); t++) {
            text.append("tree ").append(told(x, t)).append('\n');
        }
        for (int s = 0; s < 40; s++) {
            try {
                text.append("script ").append(script(x, s)).append('\n');
            } catch (IndexOutOfBoundsException e) {
                break;
            }
        }
        for (int v = 0; v < x.versions(); v++) {
            text.append("version ").append(x.treeOf(v)).append('\n');
        }
        return text.append(conflicts(x)).append('\n').append(x.fuzz()).toString();
    }
}
