import java.util.ArrayList;
import java.util.List;
import java.util.function.Function;
import java.util.function.Supplier;

/** What the document says of all calls together: a test for each sentence. */
final class GeneralSentences {
    private static final int NONE = TwigPatch.NONE;

    private GeneralSentences() {
    }

    static void check() {
        whole();
        calls();
        questions();
        constants();
        exceptions();
        whichFirst();
        changesNothing();
    }

    // ---- what it is

    private static void whole() {
        what("Differences of trees as programs: trees whose nodes keep their marks from version to version, or have to be matched,"
                + " by identities, by likeness of what is below, from above and from below", () -> {
            Shop x = new Shop();
            int one = Check.grow(x, "0.0(1.1 1.2#7(2.8) 3.0(2.9 2.7))");
            x.set(1, 5);
            Check.is("by marks", x.match(one, x.seal(), 1), 1);
            int two = Check.grow(x, "0.0(4.0(3.9(2.9 2.7)) 1.6 1.2#7)");
            int[] due = {7, 12, 13, NONE, 9, 10, 11};
            for (int mark = 0; mark < due.length; mark++) {
                Check.is("mark " + mark, x.match(one, two, mark), due[mark]);
            }
        });
        what("scripts that are found, read, turned back, applied to trees that have changed a little, with the fuzz told", () -> {
            Shop x = new Shop();
            int one = Check.grow(x, "0.0(1.1 1.2)");
            x.node(0, 1, 2, 3, NONE);
            int two = x.seal();
            int script = x.find(one, two);
            Check.is("read", Check.script(x, script), "put 3 under 0 behind 1");
            x.copy(one);
            x.drop(1);
            Check.tree("applied", x, x.apply(script, x.seal()), "0:0(3:3 2:2)");
            Check.is("fuzz", x.fuzz(), 1);
            Check.is("turned back", x.areSame(x.apply(x.turn(script), two), one), true);
        });
        what("merging three ways, the same both ways round, with conflicts of six kinds and policies for them", () -> {
            Shop x = new Shop();
            int base = Check.grow(x, "0.0(1.1(1.2(1.3)) 1.4(1.5 1.6 1.7) 1.8 1.9)");
            x.drop(1);
            x.set(5, 1);
            x.move(8, 9, 0);
            x.move(7, 4, 0);
            int left = x.seal();
            x.copy(base);
            x.set(3, 9);
            x.set(5, 2);
            x.move(9, 8, 0);
            x.move(6, 4, 0);
            int right = x.seal();
            String due = "GONE 3, VALUE 5, LOST 2, LOST 1, RING 8, RING 9, ORDER 4";
            int one = x.merge(base, left, right);
            Check.is("conflicts", Check.conflicts(x), due);
            int other = x.merge(base, right, left);
            Check.is("conflicts the other way round", Check.conflicts(x), due);
            Check.is("the same", x.areSame(one, other), true);
            Check.tree("merged", x, one, "0:0(1:1(2:2(3:9)) 4:4(5:5 6:6 7:7) 8:8 9:9)");
            x.setPolicy(TwigPatch.ORDER, TwigPatch.LEFT);
            x.setPolicy(TwigPatch.VALUE, TwigPatch.RIGHT);
            Check.tree("by policies", x, x.merge(base, left, right), "0:0(1:1(2:2(3:9)) 4:4(7:7 5:2 6:6) 8:8 9:9)");
            // Five of the six kinds, and the sixth.
            x.copy(base);
            x.move(8, 1, 0);
            left = x.seal();
            x.move(8, 4, 0);
            x.merge(base, left, x.seal());
            Check.is("conflicts", Check.conflicts(x), "PLACE 8");
        });
        what("and a history in which versions are merged, taken back, looked through, and asked who touched a node last.", () -> {
            Shop x = new Shop();
            x.version(Check.grow(x, "0.0(1.1 1.2)"), NONE, NONE);
            x.set(1, 5);
            x.version(x.seal(), 0, NONE);
            x.copy(0);
            x.set(2, 6);
            x.version(x.seal(), 0, NONE);
            int both = x.mergeVersions(1, 2);
            Check.tree("merged", x, x.treeOf(both), "0:0(1:5 2:6)");
            Check.is("touched", x.touched(both, 2), 2);
            Check.is("looked through", x.look(0, both, 1, 5), 1);
            int back = x.takeBack(1, both);
            Check.tree("taken back", x, x.treeOf(back), "0:0(1:1 2:6)");
        });
    }

    private static void what(String words, Runnable test) {
        Sentences.holds("What it is", words, test);
    }

    private static void calls() {
        what("An object is used for at most 512 calls after it has been made; what later calls answer is free.", () -> {
            // All marks, trees, scripts and versions, and as many calls as there are: the last one holds as the first.
            TwigPatch x = new TwigPatch();
            int made = 0;
            x.begin(0, 0, NONE);
            made++;
            for (int tree = 0; tree < 40; tree++) {
                x.set(0, tree);
                x.seal();
                made += 2;
            }
            for (int script = 0; script < 40; script++) {
                x.find(script, 39 - script);
                made++;
            }
            for (int version = 0; version < 30; version++) {
                x.version(version, version - 1, NONE);
                made++;
            }
            for (int mark = 1; mark < 300; mark++) {
                x.begin(5, 99, 99);
                made++;
            }
            while (made < 511) {
                Check.is("call " + made, x.value(made % 40, 0), made % 40);
                made++;
            }
            Check.is("the 512th", x.value(39, 0), 39);
            for (int last = 0; last < 4; last++) {
                lastCall(last);
            }
        });
    }

    /** The 512th call is one that has much to do. */
    private static void lastCall(int last) {
        TwigPatch x = new TwigPatch();
        x.begin(0, 0, NONE);
        for (int i = 0; i < 23; i++) {
            x.node(0, i, 1, i, NONE);
        }
        x.seal();
        x.set(0, 1);
        x.move(23, 0, 0);
        x.seal();
        x.find(0, 1);
        x.version(0, NONE, NONE);
        x.version(1, 0, NONE);
        x.version(0, 0, NONE);
        int made = 1 + 23 + 4 + 1 + 3;
        for (; made < 511; made++) {
            Check.is("match", x.match(0, 1, made % 24), made % 24);
        }
        switch (last) {
            case 0:
                Check.is("the 512th, apply", x.apply(0, 0), 2);
                break;
            case 1:
                Check.is("the 512th, merge", x.merge(0, 1, 0), 2);
                break;
            case 2:
                Check.is("the 512th, mergeVersions", x.mergeVersions(1, 2), 3);
                break;
            default:
                Check.is("the 512th, turn", x.turn(0), 1);
        }
    }

    // ---- questions

    private static void questions() {
        Sentences.holds("Terms", "Questions change nothing.", () -> {
            Shop x = full();
            for (Supplier<?> question : questionsTo(x)) {
                Check.is("a question changes", x.difference(question), "");
            }
            anyOrder();
        });
    }

    /** What is asked of trees ahead, larger and smaller ones, makes no difference to what is asked then. */
    private static void anyOrder() {
        Shop x = new Shop();
        String[] texts = {"0.0(1.1(2.2 2.3) 1.4(2.5) 4.6(2.7 2.8 2.9) 3.1)", "0.0(4.6(2.9 2.7 2.8) 1.1(2.3 2.2))",
            "0.0(1.1(2.2))", "0.0", "0.0(3.1(1.1(2.2 2.3)) 2.2 2.5)", "0.0(4.1(5.2(1.1 1.2) 5.2(1.2 1.1)) 1.1(2.3))"};
        for (String text : texts) {
            Check.grow(x, text);
        }
        for (int way = 0; way < 2; way++) {
            for (int i = 0; i < texts.length * texts.length; i++) {
                int pair = way == 0 ? i : texts.length * texts.length - 1 - i;
                matchAll(x, pair / texts.length, pair % texts.length);
            }
        }
    }

    private static void matchAll(Shop x, int from, int to) {
        for (int place = 0; place < x.size(from); place++) {
            int mark = x.markAt(from, place);
            Check.is("match(" + from + ", " + to + ", " + mark + ")", x.match(from, to, mark),
                    x.outcome(() -> x.match(from, to, mark)));
        }
        Check.is("areAlike(" + from + ", " + to + ")", x.areAlike(from, to), x.outcome(() -> x.areAlike(from, to)));
    }

    /** Trees with something to match, scripts, versions, conflicts, fuzz, policies and a draft, whose marks are 13 to 17. */
    private static Shop full() {
        Shop x = new Shop();
        int one = Check.grow(x, "0.0(1.1 1.2(1.3) 4.4(2.5 2.6))");
        x.set(1, 9);
        x.move(3, 4, 0);
        x.drop(5);
        int two = x.seal();
        x.copy(one);
        x.set(1, 8);
        x.drop(2);
        int three = x.seal();
        Check.grow(x, "0.0(1.7 4.4(2.6 2.5 2.7))");
        x.find(one, two);
        x.find(two, 3);
        x.apply(0, three);
        x.version(one, NONE, NONE);
        x.version(two, 0, NONE);
        x.version(three, 0, NONE);
        x.mergeVersions(1, 2);
        x.setPolicy(TwigPatch.VALUE, TwigPatch.LEFT);
        x.setPolicy(TwigPatch.ORDER, TwigPatch.RIGHT);
        Check.draft(x, "2.0(1.1 5.2(1.4 1.3))");
        return x;
    }

    private static List<Supplier<?>> questionsTo(Shop x) {
        return List.of(x::trees, x::fuzz, x::conflicts, x::versions, () -> x.size(0), () -> x.markAt(0, 3), () -> x.value(1, 1),
                () -> x.parent(1, 3), () -> x.areAlike(0, 3), () -> x.areSame(0, 0), () -> x.match(0, 3, 1),
                () -> x.match(3, 0, 7), () -> x.likeness(0, 3, 4, 9), () -> x.steps(0), () -> x.stepKind(0, 0),
                () -> x.stepMark(0, 1), () -> x.stepTo(1, 0, true), () -> x.stepTo(1, 0, false), () -> x.conflictKind(0),
                () -> x.conflictMark(0), () -> x.treeOf(3), () -> x.touched(3, 1), () -> x.look(0, 3, 1, 9));
    }

    // ---- constants and exceptions

    private static void exceptions(String words, Runnable test) {
        Sentences.holds("Exceptions", words, test);
    }

    private static void constants() {
        exceptions("NONE = -1: There is none.", () -> {
            Check.is("NONE", TwigPatch.NONE, -1);
            Shop x = new Shop();
            x.begin(0, 0, -1);
            Check.is("no parent", x.parent(x.seal(), 0), -1);
        });
        exceptions("UPDATE = 0, PUT = 1, MOVE = 2, REMOVE = 3: Steps.", () -> {
            int[] all = {TwigPatch.UPDATE, TwigPatch.PUT, TwigPatch.MOVE, TwigPatch.REMOVE};
            Shop x = new Shop();
            int one = Check.grow(x, "0.0(1.1 1.2)");
            x.set(0, 1);
            x.node(0, 0, 2, 3, NONE);
            x.move(1, 3, 0);
            x.drop(2);
            int script = x.find(one, x.seal());
            for (int i = 0; i < 4; i++) {
                Check.is("constant", all[i], i);
                Check.is("step", x.stepKind(script, i), i);
            }
        });
        exceptions("GONE = 0, VALUE = 1, PLACE = 2, LOST = 3, RING = 4, ORDER = 5: Conflicts.", () -> {
            int[] all = {TwigPatch.GONE, TwigPatch.VALUE, TwigPatch.PLACE, TwigPatch.LOST, TwigPatch.RING, TwigPatch.ORDER};
            Shop x = new Shop();
            int base = Check.grow(x, "0.0(1.1(1.2) 1.3(1.4 1.5) 1.6 1.7 1.8)");
            x.drop(1);
            x.set(4, 9);
            x.move(8, 6, 0);
            x.move(6, 7, 0);
            x.move(5, 3, 0);
            x.node(3, 0, 1, 9, NONE);
            int left = x.seal();
            x.copy(base);
            x.set(2, 9);
            x.set(4, 8);
            x.move(8, 3, 0);
            x.move(7, 6, 0);
            x.move(5, 3, 0);
            int right = x.seal();
            x.merge(base, left, right);
            String due = "GONE 2, VALUE 4, PLACE 8, LOST 1, RING 6, RING 7";
            Check.is("conflicts", Check.conflicts(x), due);
            for (int i = 0; i < 6; i++) {
                Check.is("constant", all[i], i);
                Check.is("kind", i < 5 ? x.conflictKind(i) : 5, i);
            }
        });
        exceptions("NEITHER = 0, LEFT = 1, RIGHT = 2: Policies.", () -> {
            int[] all = {TwigPatch.NEITHER, TwigPatch.LEFT, TwigPatch.RIGHT};
            Shop x = new Shop();
            for (int i = 0; i < 3; i++) {
                Check.is("constant", all[i], i);
                Check.is("policy", x.setPolicy(0, (i + 1) % 3), i);
            }
        });
    }

    private static void exceptions() {
        exceptions("IndexOutOfBoundsException: there is no such tree, mark, script, step, version or conflict.", () -> {
            Shop x = full();
            List<Function<Integer, Object>> calls = List.of(x::copy, x::size, x::turn, x::steps, x::conflictKind, x::conflictMark,
                    x::treeOf, x::drop, i -> x.find(i, 0), i -> x.find(0, i), i -> x.apply(i, 0), i -> x.apply(0, i),
                    i -> x.merge(i, 0, 0), i -> x.merge(0, i, 0), i -> x.merge(0, 0, i), i -> x.version(i, NONE, NONE),
                    i -> x.mergeVersions(i, 0), i -> x.mergeVersions(0, i), i -> x.takeBack(i, 1), i -> x.takeBack(1, i),
                    i -> x.markAt(i, 0), i -> x.markAt(0, i), i -> x.value(i, 0), i -> x.value(0, i), i -> x.parent(i, 0),
                    i -> x.parent(0, i), i -> x.areAlike(i, 0), i -> x.areAlike(0, i), i -> x.areSame(i, 0),
                    i -> x.areSame(0, i), i -> x.match(i, 0, 0), i -> x.match(0, i, 0), i -> x.match(0, 0, i),
                    i -> x.likeness(i, 0, 0, 0), i -> x.likeness(0, i, 0, 0), i -> x.likeness(0, 0, i, 0),
                    i -> x.likeness(0, 0, 0, i), i -> x.stepKind(i, 0), i -> x.stepKind(0, i), i -> x.stepMark(i, 0),
                    i -> x.stepMark(0, i), i -> x.stepTo(i, 0, true), i -> x.stepTo(0, i, false), i -> x.touched(i, 0),
                    i -> x.touched(0, i), i -> x.look(i, 0, 0, 0), i -> x.look(0, i, 0, 0), i -> x.node(i, 0, 0, 0, NONE),
                    i -> x.set(i, 0), i -> x.move(i, 14, 0), i -> x.move(15, i, 0), i -> x.move(14, 13, i));
            for (int call = 0; call < calls.size(); call++) {
                for (int i : new int[] {Integer.MIN_VALUE, -2, 18, 300, 1 << 16, Integer.MAX_VALUE}) {
                    int number = i;
                    Function<Integer, Object> one = calls.get(call);
                    Check.index(x, "call " + call + " with " + i, () -> one.apply(number));
                }
            }
        });
        exceptions("IllegalArgumentException: another argument is out of its range.", () -> {
            Shop x = full();
            List<Function<Integer, Object>> calls = List.of(i -> x.begin(i, 0, 0), i -> x.begin(0, i, 0), i -> x.begin(0, 0, i),
                    i -> x.node(13, 0, i, 0, 0), i -> x.node(13, 0, 0, i, 0), i -> x.node(13, 0, 0, 0, i), i -> x.set(13, i),
                    i -> x.setPolicy(i, 0), i -> x.setPolicy(0, i), i -> x.look(0, 0, i, 0), i -> x.look(0, 0, 0, i));
            for (int call = 0; call < calls.size(); call++) {
                for (int i : new int[] {Integer.MIN_VALUE, -2, 100, 256, 1 << 16, Integer.MAX_VALUE}) {
                    int number = i;
                    Function<Integer, Object> one = calls.get(call);
                    Check.argument(x, "call " + call + " with " + i, () -> one.apply(number));
                }
            }
        });
        exceptions("IllegalStateException: as the method tells.", () -> {
            Shop x = full();
            Check.state(x, "move of the root", () -> x.move(13, 14, 0));
            Check.state(x, "drop of the root", () -> x.drop(13));
            Check.state(x, "merge of unlike roots", () -> x.merge(0, 0, 3));
            Check.state(x, "takeBack of one without parents", () -> x.takeBack(0, 1));
            Check.state(x, "look the wrong way", () -> x.look(1, 0, 0, 0));
            Shop empty = new Shop();
            Check.state(empty, "seal without a draft", empty::seal);
        });
    }

    // ---- which exception comes first

    /** An object in which nothing more can be made: no mark, tree, script or version. */
    private static Shop filled() {
        Shop x = new Shop();
        x.begin(0, 0, NONE);
        for (int tree = 0; tree < 39; tree++) {
            x.seal();
        }
        x.begin(1, 1, 1);
        x.seal();
        for (int script = 0; script < 40; script++) {
            x.find(0, 1);
        }
        x.version(0, NONE, NONE);
        for (int version = 1; version < 30; version++) {
            x.version(version % 3 == 1 ? 39 : 0, version - 1, NONE);
        }
        for (int mark = 2; mark < 300; mark++) {
            x.begin(4, 0, NONE);
        }
        return x;
    }

    private static void whichFirst() {
        exceptions("If several apply, the one that is named first in the throws clause is thrown.", () -> {
            Shop x = filled();
            Class<?> index = IndexOutOfBoundsException.class;
            Class<?> argument = IllegalArgumentException.class;
            Class<?> state = IllegalStateException.class;
            first(x, "begin", argument, () -> x.begin(6, 0, 0), () -> x.begin(0, 100, 0), () -> x.begin(0, 0, -2));
            first(x, "begin", state, () -> x.begin(5, 99, 99));
            first(x, "node", index, () -> x.node(0, 0, 6, 100, 100), () -> x.node(300, -1, 0, 0, 0), () -> x.node(-1, 0, 0, 0, 0));
            first(x, "node", argument, () -> x.node(299, -1, 6, 0, 0), () -> x.node(299, 1, 0, 100, 0), () -> x.node(299, 0, 0, 0, 100));
            first(x, "node", state, () -> x.node(299, 7, 5, 99, 99));
            first(x, "set", index, () -> x.set(298, 100), () -> x.set(-1, -1));
            first(x, "set", argument, () -> x.set(299, 100));
            first(x, "move", index, () -> x.move(299, 0, 0), () -> x.move(0, 299, 0));
            first(x, "move", state, () -> x.move(299, 299, 7));
            first(x, "find", index, () -> x.find(40, 39), () -> x.find(39, 40), () -> x.find(0, -1));
            first(x, "find", state, () -> x.find(0, 39), () -> x.find(0, 0));
            first(x, "turn", index, () -> x.turn(40));
            first(x, "turn", state, () -> x.turn(39));
            first(x, "apply", index, () -> x.apply(40, 0), () -> x.apply(0, 40));
            first(x, "apply", state, () -> x.apply(39, 39));
            first(x, "merge", index, () -> x.merge(40, 39, 0), () -> x.merge(0, 40, 39), () -> x.merge(39, 0, 40));
            first(x, "merge", state, () -> x.merge(0, 0, 39), () -> x.merge(0, 0, 0));
            first(x, "version", index, () -> x.version(40, 0, 0), () -> x.version(0, 30, 30), () -> x.version(0, NONE, 30));
            first(x, "version", argument, () -> x.version(0, 29, 29), () -> x.version(39, NONE, 29));
            first(x, "version", state, () -> x.version(39, 29, 28), () -> x.version(0, NONE, NONE));
            first(x, "mergeVersions", index, () -> x.mergeVersions(30, 30), () -> x.mergeVersions(0, 30), () -> x.mergeVersions(-1, 1));
            first(x, "mergeVersions", argument, () -> x.mergeVersions(29, 29), () -> x.mergeVersions(1, 1));
            first(x, "mergeVersions", state, () -> x.mergeVersions(0, 1), () -> x.mergeVersions(2, 3));
            first(x, "takeBack", index, () -> x.takeBack(0, 30), () -> x.takeBack(30, 0), () -> x.takeBack(30, 30));
            first(x, "takeBack", state, () -> x.takeBack(0, 0), () -> x.takeBack(1, 0), () -> x.takeBack(3, 5), () -> x.takeBack(2, 5));
            first(x, "match", index, () -> x.match(0, 40, 0), () -> x.match(40, 0, 0), () -> x.match(0, 39, 1), () -> x.match(39, 0, 0));
            first(x, "match", state, () -> x.match(0, 39, 0), () -> x.match(39, 0, 1));
            first(x, "likeness", index, () -> x.likeness(0, 40, 0, 0), () -> x.likeness(0, 39, 1, 1), () -> x.likeness(0, 39, 0, 0));
            first(x, "likeness", state, () -> x.likeness(0, 39, 0, 1), () -> x.likeness(39, 0, 1, 0));
            first(x, "look", index, () -> x.look(30, 0, 6, 100), () -> x.look(0, 30, 6, 0), () -> x.look(-1, -1, -1, -1));
            first(x, "look", argument, () -> x.look(5, 4, 6, 0), () -> x.look(5, 4, 0, 100));
            first(x, "look", state, () -> x.look(5, 4, 5, 99));
            first(x, "seal", state, x::seal);
            first(x, "drop", index, () -> x.drop(0));
            first(x, "drop", state, () -> x.drop(299));
        });
    }

    private static void first(Shop x, String name, Class<?> due, Supplier<?>... calls) {
        for (int i = 0; i < calls.length; i++) {
            Check.is(name + ", " + due.getSimpleName() + " " + i, x.outcome(calls[i]), due);
        }
    }

    private static void changesNothing() {
        exceptions("A call that throws an exception changes nothing.", () -> {
            Shop x = full();
            List<Supplier<?>> calls = new ArrayList<>(List.of(() -> x.begin(0, 0, 100), () -> x.copy(9), () -> x.node(13, 0, 0, 0, 100),
                    () -> x.node(13, 3, 0, 0, 0), () -> x.set(14, 100), () -> x.move(14, 13, 2), () -> x.move(15, 16, 0),
                    () -> x.drop(13), () -> x.find(0, 9), () -> x.turn(2), () -> x.apply(2, 0), () -> x.apply(0, 9),
                    () -> x.setPolicy(3, 2), () -> x.setPolicy(1, 3), () -> x.merge(0, 1, 3), () -> x.merge(0, 1, 9),
                    () -> x.version(0, 0, 0), () -> x.version(9, 0, 1), () -> x.mergeVersions(1, 1), () -> x.takeBack(0, 3),
                    () -> x.look(3, 0, 0, 0), () -> x.match(0, 0, 9), () -> x.likeness(0, 3, 0, 0)));
            for (int i = 0; i < calls.size(); i++) {
                Check.is("call " + i + " is refused", x.outcome(calls.get(i)) instanceof Class, true);
                Check.is("call " + i + " changes", x.difference(calls.get(i)), "");
            }
            Shop y = filled();
            List<Supplier<?>> more = List.of(() -> y.begin(0, 0, 0), () -> y.node(299, 0, 0, 0, 0), y::seal, () -> y.find(0, 0),
                    () -> y.turn(0), () -> y.apply(0, 0), () -> y.merge(0, 0, 0), () -> y.version(0, NONE, NONE));
            for (int i = 0; i < more.size(); i++) {
                Check.is("call " + i + " is refused", y.outcome(more.get(i)) == IllegalStateException.class, true);
                Check.is("call " + i + " changes", y.difference(more.get(i)), "");
            }
        });
    }
}
