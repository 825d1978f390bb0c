import java.util.function.Consumer;

/** What is empty: no signs, no leaves, an empty row, nothing told of a tongue, no tongues left. */
public final class EmptyEdges {
    private static final Bench bench = new Bench();
    private static final int NONE = Bench.NONE, BAD = Bench.BAD, NOT = Bench.NOT;
    private static final int FULL = Bench.FULL;

    public static void main(String[] args) {
        noTonguesAtAll();
        noTonguesLeft();
        noSigns();
        noLeaves();
        onlySteps();
        noLeavesUntilOneComes();
        anEmptyRow();
        noRules();
        noFinalStates();
        neitherRulesNorFinalStates();
        rulesWithoutLeaves();
        bench.end();
    }

    // ---- no tongues

    private static void dueNoTongues(String what, Consumer<TreeTongues> setup) {
        for (int t : new int[] {0, 1, -1}) {
            bench.stays(8, what + ": rule", setup, x -> x.rule(t, 0, 0, 0, 0), BAD);
            bench.stays(9, what + ": last", setup, x -> x.last(t, 0, true), BAD);
            for (int way = 0; way < 4; way++) {
                int w = way;
                bench.stays(10, what + ": of", setup, x -> x.of(w, t, t), BAD);
            }
            bench.stays(11, what + ": not", setup, x -> x.not(t), BAD);
            bench.stays(12, what + ": renamed", setup, x -> x.renamed(t, Bench.SAME), BAD);
            bench.stays(13, what + ": back", setup, x -> x.back(t, Bench.SAME), BAD);
            bench.stays(14, what + ": parts", setup, x -> x.parts(t), BAD);
            bench.stays(15, what + ": within", setup, x -> x.within(t), BAD);
            bench.stays(16, what + ": grafted", setup, x -> x.grafted(t, 0, t), BAD);
            bench.stays(18, what + ": classes", setup, x -> x.classes(t), BAD);
            bench.stays(19, what + ": go", setup, x -> x.go(t, 0, 0, 0), BAD);
            bench.stays(20, what + ": isLast", setup, x -> x.isLast(t, 0), BAD);
            bench.stays(21, what + ": size", setup, x -> x.size(t, 0), BAD);
            bench.stays(22, what + ": classOf", setup, x -> x.classOf(t), BAD);
            bench.stays(23, what + ": has", setup, x -> x.has(t), BAD);
            bench.stays(24, what + ": least", setup, x -> x.least(t), BAD);
            bench.stays(25, what + ": unlike", setup, x -> x.unlike(t, t), BAD);
            bench.stays(26, what + ": ends", setup, x -> x.ends(t), BAD);
            bench.stays(27, what + ": count", setup, x -> x.count(t, 1), -1);
            bench.stays(28, what + ": tree", setup, x -> x.tree(t, 0), BAD);
            bench.stays(29, what + ": place", setup, x -> x.place(t), -1);
        }
        bench.stays(17, what + ": undo", setup, x -> x.undo(), NOT);
        bench.stays(30, what + ": told", setup, x -> x.told(2), 0);
    }

    private static void noTonguesAtAll() {
        dueNoTongues("a new object", x -> { });
        dueNoTongues("signs alone", Bench::common);
        dueNoTongues("signs and a tree", x -> {
            Bench.common(x);
            Bench.setRow(x, 3, 0, 1);
        });
    }

    private static void noTonguesLeft() {
        dueNoTongues("a told one went", x -> {
            Bench.common(x);
            Bench.setRow(x, 0);
            Bench.withoutOne(x);
            x.undo();
        });
        dueNoTongues("a told and a made one went", x -> {
            Bench.common(x);
            Bench.setRow(x, 0);
            x.not(Bench.withoutOne(x));
            x.classes(1);
            x.undo();
            x.undo();
        });
        TreeTongues x = Bench.made(Bench::common);
        Bench.withoutOne(x);
        x.undo();
        bench.due(2, "signs may come again", x.sign(1), 4);
        bench.due(2, "up to six", x.sign(1), 5);
        bench.due(2, "and no more", x.sign(1), FULL);
        bench.due(7, "the first number", x.tongue(1), 0);
    }

    // ---- no trees

    /** Over these signs there are no trees: the tongues 0, told, and 1, all that is not in it. */
    private static void dueNoTrees(String what, Consumer<TreeTongues> setup, int map) {
        TreeTongues x = Bench.made(setup);
        bench.due(7, what + ": tongues", x.told(2), 2);
        bench.due(10, what + ": either", x.of(0, 0, 1), 2);
        bench.due(10, what + ": both", x.of(1, 0, 1), 3);
        bench.due(10, what + ": less", x.of(2, 1, 0), 4);
        bench.due(10, what + ": apart", x.of(3, 1, 0), 5);
        bench.due(11, what + ": not", x.not(1), 6);
        bench.due(12, what + ": renamed", x.renamed(1, map), 7);
        bench.due(13, what + ": back", x.back(1, map), 8);
        bench.due(14, what + ": parts", x.parts(1), 9);
        bench.due(15, what + ": within", x.within(1), 10);
        bench.due(16, what + ": no leaf 0 to graft on", x.grafted(0, 0, 1), BAD);
        for (int t = 0; t <= 10; t++) {
            bench.due(18, what + ": no classes", x.classes(t), 0);
            bench.due(20, what + ": no class 0", x.isLast(t, 0), BAD);
            bench.due(21, what + ": no class 0", x.size(t, 0), BAD);
            bench.due(24, what + ": no first tree", x.least(t), NONE);
            bench.due(25, what + ": all the same", x.unlike(0, t), NONE);
            bench.due(26, what + ": there is an end", x.ends(t), 1);
            bench.due(27, what + ": none of size 1", x.count(t, 1), 0);
            bench.due(27, what + ": none of size 40", x.count(t, 40), 0);
            bench.due(27, what + ": no size 0", x.count(t, 0), -1);
            bench.due(27, what + ": no size 41", x.count(t, 41), -1);
            bench.due(28, what + ": no tree 0", x.tree(t, 0), NONE);
            bench.due(28, what + ": no last tree", x.tree(t, Bench.CAP - 1), NONE);
            bench.due(28, what + ": no number -1", x.tree(t, -1), BAD);
            for (int s = -1; s <= x.told(0); s++) {
                bench.due(19, what + ": nowhere to go", x.go(t, s, 0, 0), BAD);
            }
        }
        for (int t = 0; t < 2; t++) {
            int tongue = t;
            bench.stays(22, what + ": the row is no tree", setup, y -> y.classOf(tongue), NOT);
            bench.stays(23, what + ": the row is no tree", setup, y -> y.has(tongue), NOT);
            bench.stays(29, what + ": the row is no tree", setup, y -> y.place(tongue), -1);
            bench.stays(24, what + ": the row stays", setup, y -> y.least(tongue), NONE);
            bench.stays(25, what + ": the row stays", setup, y -> y.unlike(tongue, 0), NONE);
            bench.stays(28, what + ": the row stays", setup, y -> y.tree(tongue, 0), NONE);
        }
        bench.stays(30, what + ": no tree", setup, y -> y.told(3), 0);
        bench.stays(2, what + ": a tongue is there", setup, y -> y.sign(0), NOT);
    }

    private static void noSigns() {
        Consumer<TreeTongues> setup = x -> {
            x.tongue(5);
            x.last(0, 4, true);
            x.not(0);
        };
        dueNoTrees("no signs", setup, 0);
        for (int s : new int[] {-1, 0, 1}) {
            bench.stays(3, "no signs: rank", setup, x -> x.rank(s), BAD);
            bench.stays(4, "no signs: put", setup, x -> x.put(s), BAD);
            bench.stays(8, "no signs: rule", setup, x -> x.rule(0, s, 0, 0, 0), BAD);
            bench.stays(8, "no signs: BAD and NOT", setup, x -> x.rule(1, s, 0, 0, 0), BAD);
            bench.stays(16, "no signs: grafted", setup, x -> x.grafted(0, s, 1), BAD);
            bench.stays(19, "no signs: go", setup, x -> x.go(0, s, 0, 0), BAD);
        }
        for (int map : new int[] {1, 7, 8, 64, 1 << 30, -1, Bench.LOWEST, Bench.HIGHEST}) {
            bench.stays(12, "no signs: map " + map, setup, x -> x.renamed(0, map), BAD);
            bench.stays(13, "no signs: map " + map, setup, x -> x.back(0, map), BAD);
        }
        bench.stays(5, "no signs: drop", setup, x -> x.drop(), 0);
        bench.stays(6, "no signs: at", setup, x -> x.at(0), BAD);
        bench.stays(9, "no signs: a state is final", setup, x -> x.last(0, 4, true), 1);
        bench.stays(30, "no signs", setup, x -> x.told(0), 0);
        TreeTongues x = Bench.made(setup);
        x.undo();
        x.undo();
        bench.due(2, "the first sign comes", x.sign(0), 0);
        bench.due(18, "and a class", x.classes(x.tongue(1)), 1);
    }

    private static void noLeaves() {
        Consumer<TreeTongues> setup = x -> {
            Bench.signs(x, 2, 1);
            Bench.setRow(x, 0, 1, 1);
            x.tongue(2);
            x.rule(0, 0, 0, 0, 1);
            x.rule(0, 0, 1, 1, 0);
            x.rule(0, 1, 0, 0, 1);
            x.last(0, 0, true);
            x.last(0, 1, true);
            x.not(0);
        };
        dueNoTrees("no leaves", setup, 8);
        bench.stays(16, "no leaves: a sign of rank 2", setup, x -> x.grafted(0, 0, 0), BAD);
        bench.stays(16, "no leaves: a sign of rank 1", setup, x -> x.grafted(0, 1, 0), BAD);
        Consumer<TreeTongues> fullRow = x -> {
            setup.accept(x);
            Bench.setRowOf(x, 119, 1, 1);
        };
        bench.stays(30, "no leaves: a full row", fullRow, x -> x.told(3), 0);
        bench.stays(24, "no leaves: a full row stays", fullRow, x -> x.least(1), NONE);
    }

    private static void onlySteps() {
        dueNoTrees("six signs of rank 1", x -> {
            Bench.signs(x, 1, 1, 1, 1, 1, 1);
            x.tongue(5);
            for (int i = 0; i < 40; i++) {
                x.rule(0, i % 6, i % 5, 0, i / 2 % 5);
            }
            x.last(0, 0, true);
            x.not(0);
        }, 0543210);
        dueNoTrees("six signs of rank 2", x -> {
            Bench.signs(x, 2, 2, 2, 2, 2, 2);
            x.tongue(5);
            for (int i = 0; i < 40; i++) {
                x.rule(0, i % 6, i % 5, i / 3 % 5, i / 2 % 5);
            }
            x.last(0, 0, true);
            x.not(0);
        }, 0012345);
    }

    private static void noLeavesUntilOneComes() {
        TreeTongues x = Bench.withSigns(1, 2);
        x.tongue(1);
        x.rule(0, 0, 0, 0, 0);
        x.last(0, 0, true);
        bench.due(18, "no classes", x.classes(0), 0);
        x.undo();
        bench.due(2, "a leaf comes", x.sign(0), 2);
        x.tongue(1);
        bench.due(18, "a class", x.classes(0), 1);
        bench.due(8, "no old rule is there", x.rule(0, 2, 0, 0, 0), 1);
        x.last(0, 0, true);
        bench.due(24, "the leaf", x.least(0), 1);
        bench.due(26, "and that alone", x.ends(0), 1);
    }

    // ---- an empty row

    private static void anEmptyRow() {
        Consumer<TreeTongues> setup = x -> {
            Bench.common(x);
            Bench.setRow(x, 3, 0, 1);
            x.drop();
            Bench.withoutOne(x);
            x.tongue(1);
        };
        bench.stays(5, "drop", setup, x -> x.drop(), 0);
        bench.stays(6, "at", setup, x -> x.at(0), BAD);
        bench.stays(22, "classOf", setup, x -> x.classOf(0), NOT);
        bench.stays(23, "has", setup, x -> x.has(0), NOT);
        bench.stays(29, "place", setup, x -> x.place(0), -1);
        bench.stays(24, "least, none", setup, x -> x.least(1), NONE);
        bench.stays(25, "unlike, the same", setup, x -> x.unlike(0, 0), NONE);
        bench.stays(28, "tree, none", setup, x -> x.tree(1, 0), NONE);
        bench.stays(30, "numbers", setup, x -> x.told(1), 0);
        bench.stays(30, "no tree", setup, x -> x.told(3), 0);
        bench.due(4, "put", Bench.made(setup).put(3), 1);
        bench.due(24, "least", Bench.made(setup).least(0), 1);
        bench.due(25, "unlike", Bench.made(setup).unlike(0, 1), 1);
        bench.due(28, "tree", Bench.made(setup).tree(0, 3), 3);
    }

    // ---- nothing told

    /** No tree is in tongue 0, and all others tell of it as of any tongue. */
    private static void dueEmpty(String what, Consumer<TreeTongues> setup) {
        TreeTongues x = Bench.made(setup);
        Bench.setRow(x, 3, 0, 1);
        bench.due(18, what + ": one class", x.classes(0), 1);
        bench.due(19, what + ": leaf", x.go(0, 1, 0, 0), 0);
        bench.due(19, what + ": step", x.go(0, 2, 0, 0), 0);
        bench.due(19, what + ": pair", x.go(0, 3, 0, 0), 0);
        bench.due(20, what + ": isLast", x.isLast(0, 0), 0);
        bench.due(20, what + ": no second class", x.isLast(0, 1), BAD);
        bench.due(21, what + ": size", x.size(0, 0), 1);
        bench.due(21, what + ": no second class", x.size(0, 1), BAD);
        bench.due(22, what + ": classOf", x.classOf(0), 0);
        bench.due(23, what + ": has", x.has(0), 0);
        bench.due(24, what + ": least", x.least(0), NONE);
        bench.due(26, what + ": ends", x.ends(0), 1);
        bench.due(27, what + ": count", x.count(0, 1), 0);
        bench.due(27, what + ": count", x.count(0, 40), 0);
        bench.due(28, what + ": tree", x.tree(0, 0), NONE);
        bench.due(29, what + ": place", x.place(0), 0);
        bench.due(11, what + ": not", x.not(0), 1);
        bench.due(11, what + ": all trees", x.isLast(1, 0), 1);
        bench.due(11, what + ": without an end", x.ends(1), 0);
        bench.due(25, what + ": unlike all", x.unlike(0, 1), 1);
        bench.due(14, what + ": parts", x.parts(0), 2);
        bench.due(15, what + ": within", x.within(0), 3);
        bench.due(16, what + ": grafted", x.grafted(0, 0, 1), 4);
        bench.due(12, what + ": renamed", x.renamed(0, Bench.SAME), 5);
        bench.due(13, what + ": back", x.back(0, Bench.SAME), 6);
        for (int t = 2; t <= 6; t++) {
            bench.due(25, what + ": still none", x.unlike(0, t), NONE);
        }
        for (int row = 0; row < 3; row++) {
            int[] numbers = row == 0 ? new int[0] : row == 1 ? new int[] {3, 3} : new int[] {1};
            Consumer<TreeTongues> withRow = y -> {
                setup.accept(y);
                Bench.setRow(y, numbers);
            };
            bench.stays(24, what + ": the row stays", withRow, y -> y.least(0), NONE);
            bench.stays(25, what + ": the row stays", withRow, y -> y.unlike(0, 0), NONE);
            bench.stays(28, what + ": the row stays", withRow, y -> y.tree(0, 0), NONE);
        }
    }

    private static void noRules() {
        for (int states = 1; states <= 5; states++) {
            int many = states;
            dueEmpty("no rules, " + many + " states", x -> {
                Bench.common(x);
                x.tongue(many);
                for (int q = 0; q < many; q++) {
                    x.last(0, q, true);
                }
            });
        }
    }

    private static void noFinalStates() {
        dueEmpty("no final states", x -> {
            Bench.common(x);
            x.tongue(2);
            x.rule(0, 0, 0, 0, 0);
            x.rule(0, 1, 0, 0, 1);
            x.rule(0, 2, 0, 0, 1);
            x.rule(0, 3, 0, 1, 1);
        });
        dueEmpty("no final states any more", x -> {
            Bench.common(x);
            Bench.withoutOne(x);
            x.classes(0);
            x.last(0, 0, false);
        });
        dueEmpty("large, and no final states any more", x -> {
            Bench.common(x);
            Bench.sevenClasses(x);
            x.classes(0);
            x.last(0, 3, false);
        });
    }

    private static void neitherRulesNorFinalStates() {
        dueEmpty("neither", x -> {
            Bench.common(x);
            x.tongue(5);
        });
    }

    /** Rules that no tree can begin with are as none. */
    private static void rulesWithoutLeaves() {
        dueEmpty("no rules of leaves", x -> {
            Bench.common(x);
            x.tongue(2);
            x.rule(0, 2, 0, 0, 1);
            x.rule(0, 3, 1, 0, 0);
            x.last(0, 0, true);
            x.last(0, 1, true);
        });
        dueEmpty("a final state that no tree is of", x -> {
            Bench.common(x);
            x.tongue(3);
            x.rule(0, 0, 0, 0, 0);
            x.rule(0, 2, 1, 0, 2);
            x.last(0, 2, true);
        });
    }
}
