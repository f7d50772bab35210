/** What the document says of scripts: a test for each sentence. */
final class ScriptSentences {
    private static final int NONE = TwigPatch.NONE;

    private ScriptSentences() {
    }

    static void check() {
        numbers();
        mostSteps();
        steps();
        places();
        updates();
        puts();
        moves();
        removes();
        finds();
        turns();
        counts();
        kinds();
        marks();
        tos();
    }

    private static void scripts(String words, Runnable test) {
        Sentences.holds("Scripts", words, test);
    }

    private static void found(Shop x, int from, int to, String due) {
        int script = x.find(from, to);
        Check.is("from " + Check.told(x, from) + " to " + Check.told(x, to), Check.script(x, script), due);
        int there = x.apply(script, from);
        Check.is("it leads to the new tree", x.areAlike(there, to), true);
        Check.is("without fuzz", x.fuzz(), 0);
    }

    // ---- the terms

    private static void numbers() {
        scripts("Scripts are numbered from 0, at most 40", () -> {
            for (int way = 0; way < 2; way++) {
                Shop x = new Shop();
                Check.grow(x, "0.0");
                for (int script = 0; script < 39; script++) {
                    Check.is("script", script % 3 == 1 ? x.turn(script - 1) : x.find(0, 0), script);
                }
                Check.is("the 40th", way == 0 ? x.find(0, 0) : x.turn(38), 39);
                Check.state(x, "one more by find", () -> x.find(0, 0));
                Check.state(x, "one more by turn", () -> x.turn(39));
                Check.is("the last one is there", x.steps(39), 0);
                Check.index(x, "script 40", () -> x.steps(40));
            }
        });
    }

    private static void mostSteps() {
        scripts("a script has at most 100 steps.", () -> {
            putsAndRemoves();
            updatesOf(100);
            movesOf(101);
        });
    }

    private static void putsAndRemoves() {
        Shop x = new Shop();
        int wide = DraftSentences.wide(x, 101);
        int put = x.find(0, wide);
        Check.is("100 steps", x.steps(put), 100);
        Check.is("the last one", x.stepMark(put, 99), x.markAt(wide, 100));
        Check.is("100 steps back", x.steps(x.turn(put)), 100);
        Check.is("it leads there", x.areSame(x.apply(put, 0), wide), true);
        Check.is("100 steps", x.steps(x.find(wide, 0)), 100);
        x.copy(wide);
        x.set(0, 1);
        int more = x.seal();
        Check.state(x, "101 steps, the first an UPDATE", () -> x.find(0, more));
        Check.state(x, "101 steps, the last a REMOVE", () -> x.find(more, 0));
        Check.is("the next script", x.find(more, more), 3);
        Shop y = new Shop();
        int all = DraftSentences.wide(y, 300);
        Check.state(y, "299 PUTs", () -> y.find(0, all));
        Check.state(y, "299 REMOVEs", () -> y.find(all, 0));
        Shop z = new Shop();
        int oneMore = DraftSentences.wide(z, 102);
        Check.state(z, "101 PUTs", () -> z.find(0, oneMore));
        Check.state(z, "101 REMOVEs", () -> z.find(oneMore, 0));
    }

    private static void updatesOf(int steps) {
        Shop x = new Shop();
        int wide = DraftSentences.wide(x, steps + 1);
        x.copy(wide);
        for (int mark = 1; mark <= steps; mark++) {
            x.set(mark, 50);
        }
        int other = x.seal();
        Check.is("UPDATEs", x.steps(x.find(wide, other)), steps);
        x.set(0, 1);
        int more = x.seal();
        Check.state(x, "one more UPDATE", () -> x.find(wide, more));
    }

    /** The last child comes first: so all others have to be moved, one by one. */
    private static void movesOf(int children) {
        Shop x = new Shop();
        int wide = DraftSentences.wide(x, children + 1);
        x.copy(wide);
        x.move(x.markAt(wide, children), 0, 0);
        int other = x.seal();
        Check.is("MOVEs", x.steps(x.find(wide, other)), children - 1);
        x.set(1, 2);
        int more = x.seal();
        Check.state(x, "one more step", () -> x.find(wide, more));
    }

    private static void steps() {
        scripts("A step is an UPDATE of a mark, from a value to another one", () -> {
            Shop x = new Shop();
            int one = Check.grow(x, "0.0(1.0)");
            x.set(1, 99);
            int two = x.seal();
            int script = x.find(one, two);
            Check.is("its kind", x.stepKind(script, 0), TwigPatch.UPDATE);
            Check.is("its mark", x.stepMark(script, 0), 1);
            Check.tree("to another value", x, x.apply(script, one), "0:0(1:99)");
            Check.tree("from a value", x, x.apply(x.turn(script), two), "0:0(1:0)");
        });
        scripts("a PUT of a mark, with its value", () -> {
            Shop x = new Shop();
            int one = Check.grow(x, "0.0");
            x.node(0, 0, 1, 99, NONE);
            int script = x.find(one, x.seal());
            Check.is("its kind", x.stepKind(script, 0), TwigPatch.PUT);
            Check.is("its mark", x.stepMark(script, 0), 1);
            Check.tree("with its value", x, x.apply(script, one), "0:0(1:99)");
        });
        scripts("a MOVE;", () -> {
            Shop x = new Shop();
            int one = Check.grow(x, "0.0(1.1 1.2)");
            x.move(1, 2, 0);
            int script = x.find(one, x.seal());
            Check.is("its kind", x.stepKind(script, 0), TwigPatch.MOVE);
            Check.is("its mark", x.stepMark(script, 0), 1);
            Check.tree("moved", x, x.apply(script, one), "0:0(2:2(1:1))");
        });
        scripts("or a REMOVE of a mark.", () -> {
            Shop x = new Shop();
            int one = Check.grow(x, "0.0(1.1)");
            x.drop(1);
            int script = x.find(one, x.seal());
            Check.is("its kind", x.stepKind(script, 0), TwigPatch.REMOVE);
            Check.is("its mark", x.stepMark(script, 0), 1);
            Check.tree("removed", x, x.apply(script, one), "0:0");
        });
    }

    private static void places() {
        scripts("A PUT and a MOVE tell the parent under which the mark comes, and the mark that is right ahead of it when"
                + " it stands there, or none, and the one right behind it, or none, also under parents of the kinds 4 and 5", () -> {
            for (int kind = 3; kind <= 5; kind++) {
                Shop x = new Shop();
                int one = Check.grow(x, kind + ".0(1.1 1.2 1.3 1.4)");
                x.copy(one);
                x.drop(2);
                int without = x.seal();
                x.drop(1);
                x.drop(3);
                x.drop(4);
                int bare = x.seal();
                // The marks are put by their order: behind none, behind one, and behind one that was put.
                Check.is("put", Check.script(x, x.find(bare, one)),
                        "put 1 under 0, put 2 under 0 behind 1, put 3 under 0 behind 2, put 4 under 0 behind 3");
                Check.is("put between", Check.script(x, x.find(without, one)), "put 2 under 0 behind 1");
                x.copy(one);
                x.move(1, 4, 0);
                int below = x.seal();
                Check.is("moved from", Check.script(x, x.find(one, below)), "move 1 under 4");
                Check.is("moved to", Check.script(x, x.find(below, one)), "move 1 under 0");
                x.copy(one);
                x.move(4, 1, 0);
                below = x.seal();
                Check.is("moved to the end", Check.script(x, x.find(below, one)), "move 4 under 0 behind 3");
            }
            // The one right behind is shown by where a mark comes, when the one ahead is not there.
            Shop x = new Shop();
            int one = Check.grow(x, "0.0(1.1 1.2 1.3 1.4)");
            x.copy(one);
            x.node(0, 1, 1, 5, NONE);
            x.move(4, 0, 3);
            int two = x.seal();
            Check.tree("the new one", x, two, "0:0(1:1 5:5 2:2 4:4 3:3)");
            int script = x.find(one, two);
            Check.is("script", Check.script(x, script), "put 5 under 0 behind 1, move 3 under 0 behind 4");
            x.copy(one);
            x.drop(1);
            x.drop(4);
            x.node(0, 2, 1, 6, NONE);
            Check.tree("by the one behind", x, x.apply(script, x.seal()), "0:0(5:5 2:2 6:6 3:3)");
        });
        scripts("a MOVE and a REMOVE tell the same of where it was, and a REMOVE its value, too.", () -> {
            for (int kind = 3; kind <= 5; kind++) {
                Shop x = new Shop();
                int one = Check.grow(x, kind + ".0(1.1 1.2 1.3(2.98) 1.4)");
                x.drop(3);
                x.move(2, 5, 0);
                int two = x.seal();
                int script = x.find(one, two);
                Check.is("script", Check.script(x, script), "move 2 under 5, remove 4, remove 3");
                int back = x.turn(script);
                Check.is("back", Check.script(x, back), "put 3 under 0 behind 1, put 4 under 3, move 2 under 0 behind 1");
                Check.tree("with its value", x, x.apply(back, two), "0:0(1:1 2:2 3:3(4:98) 5:4)");
                Check.is("without fuzz", x.fuzz(), 0);
            }
            // Where one was is told as it is when those behind it are removed already.
            Shop y = new Shop();
            int four = Check.grow(y, "0.0(1.1 1.2 1.3 1.4)");
            y.drop(2);
            y.drop(3);
            int left = y.seal();
            int again = y.turn(y.find(four, left));
            Check.is("back", Check.script(y, again), "put 2 under 0 behind 1, put 3 under 0 behind 2");
            Check.tree("back", y, y.apply(again, left), "0:0(1:1 2:2 3:3 4:4)");
            Check.is("without fuzz", y.fuzz(), 0);
            // Without the one ahead, where it was is told by the one behind.
            Shop x = new Shop();
            int one = Check.grow(x, "0.0(1.1 1.2 1.3)");
            x.drop(2);
            int gone = x.seal();
            int back = x.turn(x.find(one, gone));
            x.drop(1);
            x.node(0, 1, 1, 4, NONE);
            Check.tree("ahead of 3", x, x.apply(back, x.seal()), "0:0(2:2 3:3 4:4)");
            x.copy(one);
            x.move(2, 1, 0);
            int moved = x.seal();
            back = x.turn(x.find(one, moved));
            x.move(1, 3, 0);
            x.node(0, 1, 1, 4, NONE);
            Check.tree("ahead of 3", x, x.apply(back, x.seal()), "0:0(2:2 3:3(1:1) 5:4)");
        });
    }

    private static void updates() {
        scripts("The script from an old tree to a new one is found by matching, on a copy of the old tree:", () -> {
            Shop x = new Shop();
            int one = Check.grow(x, "0.0(1.1 2.2(3.3))");
            int two = Check.grow(x, "0.0(2.2(3.4) 1.1(3.3))");
            x.copy(one);
            x.set(1, 7);
            int script = x.find(one, two);
            Check.tree("the old one stays", x, one, "0:0(1:1 2:2(3:3))");
            Check.tree("the new one stays", x, two, "4:0(5:2(6:4) 7:1(8:3))");
            Check.tree("the draft stays", x, x.seal(), "0:0(1:7 2:2(3:3))");
            // 3 and 8 are alike; 2 and 5, 1 and 7 are matched from above.
            Check.is("by what is matched", Check.script(x, script), "put 6 under 2, move 1 under 0 behind 2, move 3 under 1");
        });
        scripts("For each new node in order that is matched, and has another value than its old one: an UPDATE.", () -> {
            Shop x = new Shop();
            int one = Check.grow(x, "0.0(1.1 1.2 1.3(1.4))");
            x.set(4, 9);
            x.set(1, 9);
            x.set(0, 9);
            int two = x.seal();
            found(x, one, two, "update 0, update 1, update 4");
            x.move(1, 3, 1);
            found(x, one, x.seal(), "update 0, update 4, update 1, move 1 under 3 behind 4");
            int three = Check.grow(x, "0.1(1.1#4)");
            int four = Check.grow(x, "0.2(1.2#4 1.3)");
            // The marks are those of the old nodes; a new one that is not matched is put with its value.
            found(x, three, four, "update 5, update 6, put 9 under 5 behind 6");
            found(x, one, one, "");
        });
    }

    private static void puts() {
        scripts("For each new node in order but the root: if it is not matched, a PUT of its own mark"
                + " (which the copy does not have, as it would be matched otherwise)", () -> {
            Shop x = new Shop();
            int one = Check.grow(x, "0.0");
            int two = Check.grow(x, "0.0(2.1(3.2) 2.3)");
            found(x, one, two, "put 2 under 0, put 3 under 2, put 4 under 0 behind 2");
            found(x, two, one, "remove 4, remove 3, remove 2");
            found(x, one, Check.grow(x, "0.9"), "update 0");
        });
        scripts("it counts as matched with that then.", () -> {
            Shop x = new Shop();
            int one = Check.grow(x, "0.0(1.1)");
            x.node(0, 0, 2, 2, NONE);
            x.node(0, 1, 2, 3, NONE);
            x.move(1, 2, 0);
            int two = x.seal();
            Check.tree("the new one", x, two, "0:0(2:2(1:1) 3:3)");
            // What was put is no more put, nor removed; it takes children, and others come right behind it.
            found(x, one, two, "put 2 under 0, move 1 under 2, put 3 under 0 behind 2");
        });
    }

    private static void moves() {
        scripts("Otherwise, if its old node is not a child of that which is matched with its parent, or, for a parent of"
                + " the kinds 0 to 3, comes ahead of the one there that is matched with the sibling ahead of the new node: a MOVE.", () -> {
            for (int kind = 0; kind <= 5; kind++) {
                Shop x = new Shop();
                int one = Check.grow(x, kind + ".0(1.1 1.2 1.3 1.4)");
                x.move(1, 0, 2);
                found(x, one, x.seal(), kind < 4 ? "move 1 under 0 behind 3" : "");
                x.move(4, 0, 0);
                Check.is("steps", Check.script(x, x.find(one, x.seal())), kind < 4
                        ? "move 2 under 0 behind 4, move 3 under 0 behind 2, move 1 under 0 behind 3" : "");
                x.move(4, 2, 0);
                found(x, one, x.seal(), kind < 4 ? "move 4 under 2, move 1 under 0 behind 3" : "move 4 under 2");
                // The one that is first has no sibling ahead, and those behind it are behind it still.
                x.copy(one);
                x.drop(1);
                x.drop(3);
                found(x, one, x.seal(), "remove 3, remove 1");
                x.node(0, 1, 2, 9, NONE);
                found(x, one, x.seal(), kind < 4 ? "put 5 under 0 behind 2, remove 3, remove 1"
                        : "put 5 under 0 behind 4, remove 3, remove 1");
            }
        });
        scripts("It is put, or moved, right behind the one that is matched with the sibling ahead, and is first, if there is none.", () -> {
            Shop x = new Shop();
            int one = Check.grow(x, "0.0(1.1 1.2(1.3) 1.4)");
            x.move(3, 0, 0);
            x.node(0, 0, 2, 5, NONE);
            x.node(2, 0, 2, 6, NONE);
            x.drop(1);
            int two = x.seal();
            Check.tree("the new one", x, two, "0:0(5:5 3:3 2:2(6:6) 4:4)");
            found(x, one, two, "put 5 under 0, move 3 under 0 behind 5, put 6 under 2, remove 1");
            x.copy(one);
            x.move(3, 0, 0);
            found(x, one, x.seal(), "move 3 under 0");
            x.copy(one);
            x.move(3, 4, 0);
            x.node(4, 1, 1, 5, NONE);
            found(x, one, x.seal(), "move 3 under 4, put 7 under 4 behind 3");
        });
    }

    private static void removes() {
        scripts("For each node of the copy, the last one in order first, that is matched with none: a REMOVE.", () -> {
            Shop x = new Shop();
            int one = Check.grow(x, "0.0(1.1(2.2 2.3(2.4)) 1.5 1.6)");
            x.drop(1);
            x.drop(6);
            found(x, one, x.seal(), "remove 6, remove 4, remove 3, remove 2, remove 1");
            x.copy(one);
            x.move(4, 5, 0);
            x.drop(1);
            found(x, one, x.seal(), "move 4 under 5, remove 3, remove 2, remove 1");
            x.copy(one);
            found(x, one, x.seal(), "");
            // It is the order of the copy as it has come to be that counts.
            x.copy(one);
            x.move(1, 0, 2);
            x.drop(2);
            x.drop(5);
            int two = x.seal();
            Check.tree("the new one", x, two, "0:0(6:6 1:1(3:3(4:4)))");
            found(x, one, two, "move 1 under 0 behind 6, remove 2, remove 5");
        });
    }

    // ---- promises

    private static void finds() {
        Sentences.promise(9, "Finds the script from a tree to another one.", () -> {
            Shop x = new Shop();
            int one = Check.grow(x, "0.0(1.1 1.2)");
            x.set(1, 5);
            x.drop(2);
            int two = x.seal();
            found(x, one, two, "update 1, remove 2");
            found(x, two, one, "update 1, put 2 under 0 behind 1");
        });
        Sentences.promise(9, "from: its number", () -> {
            Shop x = new Shop();
            Check.grow(x, "0.0");
            Check.grow(x, "0.0");
            Check.indexes(x, "from", 0, 1, i -> x.find(i, 0));
            Check.is("the last", x.find(1, 0), 0);
        });
        Sentences.promise(9, "to: its number", () -> {
            Shop x = new Shop();
            Check.grow(x, "0.0");
            Check.grow(x, "0.0");
            Check.indexes(x, "to", 0, 1, i -> x.find(0, i));
            Check.is("the last", x.find(0, 1), 0);
        });
        Sentences.promise(9, "Returns the number of the script.", () -> {
            Shop x = new Shop();
            x.begin(0, 0, NONE);
            for (int script = 0; script < 10; script++) {
                x.set(0, script);
                int tree = x.seal();
                Check.is("the number", x.find(0, tree), script);
                Check.is("its steps", x.steps(script), script == 0 ? 0 : 1);
            }
        });
        Sentences.promise(9, "Throws IndexOutOfBoundsException if there are no such trees", () -> {
            Shop x = new Shop();
            Check.index(x, "none at all", () -> x.find(0, 0));
            Check.grow(x, "0.0");
            Check.grow(x, "1.0");
            Check.index(x, "no old one", () -> x.find(2, 1));
            Check.index(x, "no new one", () -> x.find(1, 2));
            Check.index(x, "neither", () -> x.find(-1, -1));
            for (int script = 0; script < 40; script++) {
                x.find(0, 0);
            }
            Check.index(x, "the index first", () -> x.find(0, 2));
            Check.index(x, "the index first", () -> x.find(2, 0));
        });
        Sentences.promise(9, "Throws IllegalStateException if the kinds or identities of the roots are unlike,"
                + " there are 40 scripts, or it would have more than 100 steps", () -> {
            Shop x = new Shop();
            int wide = DraftSentences.wide(x, 102);
            int kind = Check.grow(x, "1.0");
            int identity = Check.grow(x, "0.0#0");
            Check.state(x, "unlike kinds", () -> x.find(0, kind));
            Check.state(x, "unlike identities", () -> x.find(0, identity));
            Check.state(x, "101 steps", () -> x.find(0, wide));
            for (int script = 0; script < 40; script++) {
                Check.is("no number was lost", x.find(0, 0), script);
            }
            Check.state(x, "40 scripts", () -> x.find(0, 0));
        });
    }

    private static void turns() {
        Sentences.promise(10, "Turns a script back.", () -> {
            Shop x = new Shop();
            int one = Check.grow(x, "0.0(1.1 1.2 1.3)");
            x.set(1, 5);
            x.drop(2);
            x.move(3, 1, 0);
            int two = x.seal();
            int script = x.find(one, two);
            int back = x.turn(script);
            Check.is("the one", Check.script(x, script), "update 1, move 3 under 1, remove 2");
            Check.is("back", Check.script(x, back), "put 2 under 0 behind 1, move 3 under 0 behind 2, update 1");
            Check.is("it leads back", x.areSame(x.apply(back, two), one), true);
            Check.is("the one stays", Check.script(x, script), "update 1, move 3 under 1, remove 2");
        });
        Sentences.promise(10, "script: its number", () -> {
            Shop x = new Shop();
            Check.grow(x, "0.0");
            x.set(0, 1);
            x.seal();
            x.find(0, 0);
            x.find(0, 1);
            Check.indexes(x, "script", 0, 1, x::turn);
            Check.is("the first has no steps", x.steps(x.turn(0)), 0);
            Check.is("the second has one", x.steps(x.turn(1)), 1);
        });
        Sentences.promise(10, "Returns the number of the new one.", () -> {
            Shop x = new Shop();
            Check.grow(x, "0.0");
            x.find(0, 0);
            for (int script = 1; script < 40; script++) {
                Check.is("the number", x.turn(script - 1), script);
            }
        });
        Sentences.promise(10, "Throws IndexOutOfBoundsException if there is no such script", () -> {
            Shop x = new Shop();
            Check.indexes(x, "script", 0, -1, x::turn);
            Check.grow(x, "0.0");
            Check.indexes(x, "script", 0, -1, x::turn);
            for (int script = 0; script < 40; script++) {
                x.find(0, 0);
            }
            Check.indexes(x, "script", 0, 39, x::turn);
        });
        Sentences.promise(10, "Throws IllegalStateException if there are 40", () -> {
            Shop x = new Shop();
            Check.grow(x, "0.0");
            for (int script = 0; script < 39; script++) {
                x.find(0, 0);
            }
            Check.is("the 40th", x.turn(0), 39);
            Check.state(x, "one more", () -> x.turn(0));
            Check.state(x, "one more of the last", () -> x.turn(39));
        });
    }

    private static void counts() {
        Sentences.promise(27, "Returns how many steps a script has.", () -> {
            Shop x = mixed();
            Check.asked(x, "four", 4, () -> x.steps(0));
        });
        Sentences.promise(27, "script: its number", () -> {
            Shop x = mixed();
            x.find(0, 0);
            Check.indexes(x, "script", 0, 1, x::steps);
            Check.is("the first", x.steps(0), 4);
            Check.is("the last", x.steps(1), 0);
        });
        Sentences.promise(27, "Returns how many.", () -> {
            Shop x = new Shop();
            Check.grow(x, "0.0");
            Check.is("none", x.steps(x.find(0, 0)), 0);
            x.set(0, 1);
            Check.is("one", x.steps(x.find(0, x.seal())), 1);
            Shop y = new Shop();
            int wide = DraftSentences.wide(y, 101);
            Check.is("a hundred", y.steps(y.find(0, wide)), 100);
        });
        Sentences.promise(27, "Throws IndexOutOfBoundsException if there is no such script", () -> {
            Shop x = new Shop();
            Check.indexes(x, "script", 0, -1, x::steps);
            Check.grow(x, "0.0");
            x.find(0, 0);
            Check.indexes(x, "script", 0, 0, x::steps);
            for (int script = 1; script < 40; script++) {
                x.turn(0);
            }
            Check.indexes(x, "script", 0, 39, x::steps);
        });
    }

    /** Script 0: update 0, move 1 under 2, put 4 under 0 behind 2, remove 3. */
    private static Shop mixed() {
        Shop x = new Shop();
        int one = Check.grow(x, "0.0(1.1 1.2 1.3)");
        x.set(0, 1);
        x.node(0, 3, 2, 4, NONE);
        x.move(1, 2, 0);
        x.drop(3);
        x.find(one, x.seal());
        return x;
    }

    private static void kinds() {
        Sentences.promise(28, "Returns what a step is.", () -> {
            Shop x = mixed();
            int[] due = {TwigPatch.UPDATE, TwigPatch.MOVE, TwigPatch.PUT, TwigPatch.REMOVE};
            for (int i = 0; i < due.length; i++) {
                int step = i;
                Check.asked(x, "step " + i, due[i], () -> x.stepKind(0, step));
            }
        });
        Sentences.promise(28, "script: its number", () -> {
            Shop x = mixed();
            x.turn(0);
            Check.indexes(x, "script", 0, 1, i -> x.stepKind(i, 0));
            Check.is("the last", x.stepKind(1, 0), TwigPatch.PUT);
        });
        Sentences.promise(28, "step: from 0", () -> {
            Shop x = mixed();
            Check.indexes(x, "step", 0, 3, i -> x.stepKind(0, i));
            Check.is("the first", x.stepKind(0, 0), TwigPatch.UPDATE);
            Check.is("the last", x.stepKind(0, 3), TwigPatch.REMOVE);
        });
        Sentences.promise(28, "Returns UPDATE to REMOVE.", () -> {
            Shop x = mixed();
            int turned = x.turn(0);
            int[] due = {TwigPatch.PUT, TwigPatch.REMOVE, TwigPatch.MOVE, TwigPatch.UPDATE};
            for (int step = 0; step < 4; step++) {
                Check.is("step " + step + " turned", x.stepKind(turned, step), due[step]);
            }
        });
        Sentences.promise(28, "Throws IndexOutOfBoundsException if there is no such script or step", () -> {
            Shop x = mixed();
            x.find(0, 0);
            Check.indexes(x, "step of none", 0, -1, i -> x.stepKind(1, i));
            Check.index(x, "step 4", () -> x.stepKind(0, 4));
            Check.index(x, "script 2", () -> x.stepKind(2, 0));
            Check.index(x, "neither", () -> x.stepKind(-1, -1));
        });
    }

    private static void marks() {
        Sentences.promise(29, "Returns the mark of a step.", () -> {
            Shop x = mixed();
            int[] due = {0, 1, 4, 3};
            for (int i = 0; i < due.length; i++) {
                int step = i;
                Check.asked(x, "step " + i, due[i], () -> x.stepMark(0, step));
            }
        });
        Sentences.promise(29, "script: its number", () -> {
            Shop x = mixed();
            x.turn(0);
            Check.indexes(x, "script", 0, 1, i -> x.stepMark(i, 0));
            Check.is("the last", x.stepMark(1, 0), 3);
        });
        Sentences.promise(29, "step: from 0", () -> {
            Shop x = mixed();
            Check.indexes(x, "step", 0, 3, i -> x.stepMark(0, i));
            Check.is("the first", x.stepMark(0, 0), 0);
            Check.is("the last", x.stepMark(0, 3), 3);
        });
        Sentences.promise(29, "Returns the mark.", () -> {
            Shop x = new Shop();
            Check.begun(x, 298);
            int one = Check.grow(x, "0.0");
            x.node(298, 0, 1, 1, NONE);
            int script = x.find(one, x.seal());
            Check.is("the last of all", x.stepMark(script, 0), 299);
        });
        Sentences.promise(29, "Throws IndexOutOfBoundsException if there is no such script or step", () -> {
            Shop x = mixed();
            x.find(0, 0);
            Check.indexes(x, "step of none", 0, -1, i -> x.stepMark(1, i));
            Check.index(x, "step 4", () -> x.stepMark(0, 4));
            Check.index(x, "script 2", () -> x.stepMark(2, 0));
            Check.index(x, "neither", () -> x.stepMark(-1, -1));
        });
    }

    private static void tos() {
        Sentences.promise(30, "Returns where a step puts or moves its mark.", () -> {
            Shop x = mixed();
            Check.asked(x, "the MOVE", 2, () -> x.stepTo(0, 1, true));
            Check.asked(x, "the PUT", 0, () -> x.stepTo(0, 2, true));
            Check.asked(x, "right behind", 2, () -> x.stepTo(0, 2, false));
        });
        Sentences.promise(30, "script: its number", () -> {
            Shop x = mixed();
            x.turn(0);
            Check.indexes(x, "script", 0, 1, i -> x.stepTo(i, 0, true));
            Check.indexes(x, "script", 0, 1, i -> x.stepTo(i, 0, false));
            Check.is("the last", x.stepTo(1, 0, false), 4);
        });
        Sentences.promise(30, "step: from 0", () -> {
            Shop x = mixed();
            Check.indexes(x, "step", 0, 3, i -> x.stepTo(0, i, true));
            Check.indexes(x, "step", 0, 3, i -> x.stepTo(0, i, false));
            int back = x.turn(0);
            Check.is("the first", x.stepTo(back, 0, true), 0);
            Check.is("the last", x.stepTo(back, 3, true), NONE);
        });
        Sentences.promise(30, "isWhat: true for the parent, false for the mark right ahead of it there", () -> {
            Shop x = new Shop();
            int one = Check.grow(x, "0.0(1.1 1.2(2.3))");
            x.node(2, 1, 2, 4, NONE);
            int script = x.find(one, x.seal());
            Check.is("the parent", x.stepTo(script, 0, true), 2);
            Check.is("the one ahead", x.stepTo(script, 0, false), 3);
        });
        Sentences.promise(30, "Returns the mark; NONE for none, and for an UPDATE and a REMOVE.", () -> {
            Shop x = mixed();
            Check.is("a MOVE as the first", x.stepTo(0, 1, false), NONE);
            Check.is("an UPDATE", x.stepTo(0, 0, true), NONE);
            Check.is("an UPDATE", x.stepTo(0, 0, false), NONE);
            Check.is("a REMOVE", x.stepTo(0, 3, true), NONE);
            Check.is("a REMOVE", x.stepTo(0, 3, false), NONE);
            int back = x.turn(0);
            Check.is("a REMOVE for a PUT", x.stepTo(back, 1, true), NONE);
            Check.is("a REMOVE for a PUT", x.stepTo(back, 1, false), NONE);
            Check.is("an UPDATE back", x.stepTo(back, 3, false), NONE);
        });
        Sentences.promise(30, "Throws IndexOutOfBoundsException if there is no such script or step", () -> {
            Shop x = mixed();
            x.find(0, 0);
            Check.indexes(x, "step of none", 0, -1, i -> x.stepTo(1, i, true));
            Check.index(x, "step 4", () -> x.stepTo(0, 4, false));
            Check.index(x, "script 2", () -> x.stepTo(2, 0, true));
            Check.index(x, "neither", () -> x.stepTo(-1, -1, false));
        });
    }
}
