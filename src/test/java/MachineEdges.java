import java.util.function.Consumer;

/** The edges of promises 18 to 26: the least machine, and what is asked of a tongue by it. */
public final class MachineEdges {
    private static final Bench bench = new Bench();
    private static final int NONE = Bench.NONE, BAD = Bench.BAD, NOT = Bench.NOT;
    private static final int LARGE = Bench.LARGE;

    public static void main(String[] args) {
        noSuchTongue();
        fromNoneToSevenClasses();
        theFirstTreesOfClasses();
        signsAndClassesToGo();
        theFirstThatFitsForGo();
        classesThatAreNotThere();
        theFirstThatFitsForClasses();
        rowsThatAreNoTrees();
        theFirstThatFitsForRows();
        treesOfAnyLength();
        theFirstTree();
        noFirstTree();
        unlikeOnes();
        theSameOnes();
        theFirstThatFitsForUnlike();
        unlikeMayBeLarge();
        endsAndNoEnds();
        largeOnesKeepTheRow();
        bench.end();
    }

    // ---- objects to begin with

    /** Tongue 0 has six classes, 1 is large, 2 is empty; the row is a tree. */
    private static void three(TreeTongues x) {
        Bench.common(x);
        Bench.sixClasses(x);
        Bench.sevenClasses(x);
        x.tongue(1);
        Bench.setRow(x, 3, 0, 2, 1);
    }

    private static Consumer<TreeTongues> threeWithRow(int... row) {
        return x -> {
            three(x);
            Bench.setRow(x, row);
        };
    }

    private static void threeWithFullRow(TreeTongues x) {
        three(x);
        Bench.setRowOf(x, 119, 2, 1);
    }

    private static void sixteen(TreeTongues x) {
        three(x);
        for (int t = 3; t < 16; t++) {
            x.tongue(1);
        }
    }

    // ---- all calls

    private static void noSuchTongue() {
        for (int t : new int[] {-1, 3, 15, 16, Bench.LOWEST, Bench.HIGHEST}) {
            bench.stays(18, "classes " + t, MachineEdges::three, x -> x.classes(t), BAD);
            bench.stays(19, "go " + t, MachineEdges::three, x -> x.go(t, 0, 0, 0), BAD);
            bench.stays(20, "isLast " + t, MachineEdges::three, x -> x.isLast(t, 0), BAD);
            bench.stays(21, "size " + t, MachineEdges::three, x -> x.size(t, 0), BAD);
            bench.stays(22, "classOf " + t, MachineEdges::three, x -> x.classOf(t), BAD);
            bench.stays(23, "has " + t, MachineEdges::three, x -> x.has(t), BAD);
            bench.stays(24, "least " + t, MachineEdges::three, x -> x.least(t), BAD);
            bench.stays(25, "unlike " + t + ", 0", MachineEdges::three, x -> x.unlike(t, 0), BAD);
            bench.stays(25, "unlike 0, " + t, MachineEdges::three, x -> x.unlike(0, t), BAD);
            bench.stays(25, "unlike, both " + t, MachineEdges::three, x -> x.unlike(t, t), BAD);
            bench.stays(26, "ends " + t, MachineEdges::three, x -> x.ends(t), BAD);
        }
        TreeTongues x = Bench.made(MachineEdges::sixteen);
        bench.due(18, "the sixteenth", x.classes(15), 1);
        bench.due(19, "the sixteenth", x.go(15, 3, 0, 0), 0);
        bench.due(20, "the sixteenth", x.isLast(15, 0), 0);
        bench.due(21, "the sixteenth", x.size(15, 0), 1);
        bench.due(22, "the sixteenth", x.classOf(15), 0);
        bench.due(23, "the sixteenth", x.has(15), 0);
        bench.due(24, "the sixteenth", x.least(15), NONE);
        bench.due(25, "the sixteenth", x.unlike(15, 0), 1);
        bench.due(26, "the sixteenth", x.ends(15), 1);
        bench.due(18, "a seventeenth", x.classes(16), BAD);
        bench.due(25, "a seventeenth", x.unlike(15, 16), BAD);
    }

    // ---- the least machine

    private static void fromNoneToSevenClasses() {
        TreeTongues none = Bench.withSigns(1, 2);
        bench.due(18, "none", none.classes(none.tongue(5)), 0);
        TreeTongues x = Bench.made(Bench::common);
        bench.due(18, "one: no trees", x.classes(x.tongue(5)), 1);
        bench.due(18, "one: all trees", x.classes(Bench.all(x)), 1);
        bench.due(18, "two", x.classes(Bench.withoutOne(x)), 2);
        for (int steps = 1; steps <= 4; steps++) {
            bench.due(18, steps + " steps", x.classes(Bench.chain(x, 2, steps)), steps + 2);
        }
        TreeTongues y = Bench.made(Bench::common);
        int t = Bench.sixClasses(y);
        bench.due(18, "six", y.classes(t), 6);
        y.rule(t, 3, 0, 0, 1);
        bench.due(18, "six still", y.classes(t), 6);
        y.rule(t, 3, 0, 0, 3);
        bench.due(18, "seven", y.classes(t), LARGE);
        bench.due(18, "large again", y.classes(t), LARGE);
        y.last(t, 3, false);
        bench.due(18, "no final state: one", y.classes(t), 1);
        y.last(t, 3, true);
        bench.due(18, "seven", y.classes(t), LARGE);
        // all states final: a tree is in it just if it is of any state
        for (int q = 0; q < 3; q++) {
            y.last(t, q, true);
        }
        bench.due(18, "not so many", y.classes(t), 5);
    }

    /** Numbers go by the first trees: by size, then by the sign, then by the parts. */
    private static void theFirstTreesOfClasses() {
        TreeTongues x = Bench.made(MachineEdges::three);
        // 0: leaf 0; 1: leaf 1; 2: 2 0; 3: 2 1; 4: 2 2 0; 5: 2 2 1
        int[] sizes = {1, 1, 2, 2, 3, 3};
        int[] finals = {0, 1, 0, 1, 0, 0};
        int[][] firsts = {{0}, {1}, {2, 0}, {2, 1}, {2, 2, 0}, {2, 2, 1}};
        for (int c = 0; c < 6; c++) {
            bench.due(21, "class " + c, x.size(0, c), sizes[c]);
            bench.due(20, "class " + c, x.isLast(0, c), finals[c]);
            Bench.setRow(x, firsts[c]);
            bench.due(22, "class " + c, x.classOf(0), c);
            bench.due(23, "class " + c, x.has(0), finals[c]);
        }
        // of one size and one sign the first part decides, ahead of the second
        TreeTongues y = Bench.withSigns(0, 0, 2);
        int t = y.tongue(5);
        y.rule(t, 0, 0, 0, 0);
        y.rule(t, 1, 0, 0, 1);
        y.rule(t, 2, 1, 0, 2);
        y.rule(t, 2, 0, 1, 3);
        y.rule(t, 2, 3, 2, 4);
        y.last(t, 4, true);
        bench.due(18, "six", y.classes(t), 6);
        bench.due(19, "the pair of leaf 0 twice is the rest", y.go(t, 2, 0, 0), 2);
        bench.due(19, "leaf 0 first", y.go(t, 2, 0, 1), 3);
        bench.due(19, "leaf 1 first", y.go(t, 2, 1, 0), 4);
        bench.due(19, "the pair of pairs", y.go(t, 2, 3, 4), 5);
        bench.due(21, "its size", y.size(t, 5), 7);
    }

    private static void signsAndClassesToGo() {
        for (int s : new int[] {-1, 4, 6, Bench.LOWEST, Bench.HIGHEST}) {
            bench.stays(19, "no sign " + s, MachineEdges::three, x -> x.go(0, s, 0, 0), BAD);
        }
        for (int c : new int[] {-1, 6, 7, Bench.LOWEST, Bench.HIGHEST}) {
            bench.stays(19, "rank 1, no class " + c, MachineEdges::three, x -> x.go(0, 2, c, 0),
                    BAD);
            bench.stays(19, "rank 2, no first " + c, MachineEdges::three, x -> x.go(0, 3, c, 0),
                    BAD);
            bench.stays(19, "rank 2, no second " + c, MachineEdges::three, x -> x.go(0, 3, 0, c),
                    BAD);
            bench.stays(19, "rank 2, neither " + c, MachineEdges::three, x -> x.go(0, 3, c, c),
                    BAD);
            bench.stays(19, "rank 1, second " + c, MachineEdges::three, x -> x.go(0, 2, 0, c), 2);
            bench.stays(19, "rank 0, parts " + c, MachineEdges::three, x -> x.go(0, 1, c, c), 1);
        }
        TreeTongues x = Bench.made(MachineEdges::three);
        bench.due(19, "rank 1, the last class", x.go(0, 2, 5, 0), 5);
        bench.due(19, "rank 2, the last classes", x.go(0, 3, 5, 5), 5);
        bench.due(19, "one class: the only one", x.go(2, 3, 0, 0), 0);
        bench.due(19, "one class: no first 1", x.go(2, 3, 1, 0), BAD);
        bench.due(19, "one class: no second 1", x.go(2, 3, 0, 1), BAD);
        bench.due(19, "one class: rank 1, no 1", x.go(2, 2, 1, 0), BAD);
    }

    private static void theFirstThatFitsForGo() {
        Consumer<TreeTongues> setup = MachineEdges::three;
        bench.stays(19, "LARGE", setup, x -> x.go(1, 0, 0, 0), LARGE);
        bench.stays(19, "BAD sign and LARGE", setup, x -> x.go(1, 4, 0, 0), BAD);
        bench.stays(19, "BAD sign and LARGE", setup, x -> x.go(1, -1, 0, 0), BAD);
        bench.stays(19, "LARGE and BAD first", setup, x -> x.go(1, 2, -1, 0), LARGE);
        bench.stays(19, "LARGE and BAD second", setup, x -> x.go(1, 3, 0, 99), LARGE);
        bench.stays(19, "BAD sign, LARGE, BAD classes", setup, x -> x.go(1, 4, -1, 99), BAD);
        bench.stays(19, "BAD tongue, BAD sign", setup, x -> x.go(3, 4, 0, 0), BAD);
    }

    private static void classesThatAreNotThere() {
        for (int c : new int[] {-1, 6, 7, 31, 32, Bench.LOWEST, Bench.HIGHEST}) {
            bench.stays(20, "six, no class " + c, MachineEdges::three, x -> x.isLast(0, c), BAD);
            bench.stays(21, "six, no class " + c, MachineEdges::three, x -> x.size(0, c), BAD);
        }
        for (int c : new int[] {-1, 1, 5, 6}) {
            bench.stays(20, "one, no class " + c, MachineEdges::three, x -> x.isLast(2, c), BAD);
            bench.stays(21, "one, no class " + c, MachineEdges::three, x -> x.size(2, c), BAD);
        }
    }

    private static void theFirstThatFitsForClasses() {
        for (int c : new int[] {-1, 0, 6, 99}) {
            bench.stays(20, "LARGE, class " + c, MachineEdges::three, x -> x.isLast(1, c), LARGE);
            bench.stays(21, "LARGE, class " + c, MachineEdges::three, x -> x.size(1, c), LARGE);
        }
        bench.stays(20, "BAD tongue and BAD class", MachineEdges::three, x -> x.isLast(3, 9), BAD);
        bench.stays(21, "BAD tongue and BAD class", MachineEdges::three, x -> x.size(3, 9), BAD);
        bench.stays(18, "LARGE", MachineEdges::three, x -> x.classes(1), LARGE);
        bench.stays(24, "LARGE", MachineEdges::three, x -> x.least(1), LARGE);
        bench.stays(26, "LARGE", MachineEdges::three, x -> x.ends(1), LARGE);
    }

    // ---- the tree that the row is

    private static void rowsThatAreNoTrees() {
        int[][] rows = {{}, {2}, {3}, {3, 0}, {0, 0}, {2, 0, 1}, {3, 0, 1, 0}, {0, 2}};
        for (int[] row : rows) {
            bench.stays(22, "no tree of " + row.length, threeWithRow(row), x -> x.classOf(0), NOT);
            bench.stays(23, "no tree of " + row.length, threeWithRow(row), x -> x.has(0), NOT);
        }
        Consumer<TreeTongues> fullOfSteps = x -> {
            three(x);
            Bench.setRowOf(x, 119, 2, 2);
        };
        bench.stays(22, "a full row that is no tree", fullOfSteps, x -> x.classOf(0), NOT);
        bench.stays(23, "a full row that is no tree", fullOfSteps, x -> x.has(0), NOT);
    }

    private static void theFirstThatFitsForRows() {
        for (int[] row : new int[][] {{}, {3, 0}}) {
            Consumer<TreeTongues> setup = threeWithRow(row);
            bench.stays(22, "BAD and NOT", setup, x -> x.classOf(3), BAD);
            bench.stays(22, "BAD and NOT", setup, x -> x.classOf(-1), BAD);
            bench.stays(23, "BAD and NOT", setup, x -> x.has(3), BAD);
            bench.stays(23, "BAD and NOT", setup, x -> x.has(-1), BAD);
            bench.stays(22, "NOT and LARGE", setup, x -> x.classOf(1), NOT);
            bench.stays(23, "NOT and LARGE", setup, x -> x.has(1), NOT);
        }
        bench.stays(22, "LARGE", MachineEdges::three, x -> x.classOf(1), LARGE);
        bench.stays(23, "LARGE", MachineEdges::three, x -> x.has(1), LARGE);
    }

    private static void treesOfAnyLength() {
        TreeTongues x = Bench.made(MachineEdges::three);
        Bench.setRow(x, 1);
        bench.due(22, "one number", x.classOf(0), 1);
        bench.due(23, "one number", x.has(0), 1);
        int even = x.tongue(2);
        x.rule(even, 0, 0, 0, 0);
        x.rule(even, 2, 0, 0, 1);
        x.rule(even, 2, 1, 0, 0);
        x.last(even, 1, true);
        Bench.setRowOf(x, 119, 2, 0);
        bench.due(22, "120 numbers", x.classOf(even), 2);
        bench.due(23, "120 numbers", x.has(even), 1);
        bench.due(22, "120 numbers, all go to the rest", x.classOf(0), 5);
        Bench.setRowOf(x, 118, 2, 0);
        bench.due(22, "119 numbers", x.classOf(even), 0);
        bench.due(23, "119 numbers", x.has(even), 0);
    }

    // ---- the first tree

    private static void theFirstTree() {
        TreeTongues x = Bench.made(MachineEdges::threeWithFullRow);
        bench.due(24, "the shortest", x.least(0), 1);
        bench.dueRow(24, "the row is that alone", x, 1);
        bench.due(24, "not of a full row", x.put(0), 2);
        int t = Bench.chain(x, 2, 4);
        bench.due(24, "five numbers", x.least(t), 5);
        bench.dueRow(24, "five numbers", x, 2, 2, 2, 2, 0);
        bench.due(24, "of all but it", x.least(x.not(t)), 1);
        bench.dueRow(24, "of all but it", x, 0);
    }

    private static void noFirstTree() {
        bench.stays(24, "a tree stays", MachineEdges::three, x -> x.least(2), NONE);
        bench.stays(24, "no tree stays", threeWithRow(3, 3, 0), x -> x.least(2), NONE);
        bench.stays(24, "an empty row stays", threeWithRow(), x -> x.least(2), NONE);
        bench.stays(24, "a full row stays", MachineEdges::threeWithFullRow, x -> x.least(2), NONE);
        bench.stays(24, "of a made one", x -> {
            three(x);
            x.of(3, 0, 0);
        }, x -> x.least(3), NONE);
    }

    // ---- two tongues

    private static void unlikeOnes() {
        TreeTongues x = Bench.made(MachineEdges::sixteen);
        bench.due(25, "needs no place", x.unlike(0, 2), 1);
        bench.dueRow(25, "the first of it", x, 1);
        bench.due(25, "the other way", x.unlike(2, 0), 1);
        bench.due(25, "makes none", x.told(2), 16);
        TreeTongues y = Bench.made(Bench::common);
        int three = Bench.chain(y, 2, 3);
        int four = Bench.chain(y, 2, 4);
        Bench.setRowOf(y, 119, 2, 2);
        bench.due(25, "the shorter one", y.unlike(four, three), 4);
        bench.dueRow(25, "the shorter one", y, 2, 2, 2, 0);
        bench.due(25, "none and all", y.unlike(y.tongue(1), Bench.all(y)), 1);
        bench.dueRow(25, "the first of all", y, 0);
    }

    private static void theSameOnes() {
        bench.stays(25, "itself: a tree stays", MachineEdges::three, x -> x.unlike(0, 0), NONE);
        bench.stays(25, "itself: no tree stays", threeWithRow(2, 2), x -> x.unlike(0, 0), NONE);
        bench.stays(25, "an empty row stays", threeWithRow(), x -> x.unlike(2, 2), NONE);
        bench.stays(25, "a full row stays", MachineEdges::threeWithFullRow, x -> x.unlike(0, 0),
                NONE);
        bench.stays(25, "another that is the same", x -> {
            three(x);
            Bench.sixClasses(x);
        }, x -> x.unlike(3, 0), NONE);
    }

    private static void theFirstThatFitsForUnlike() {
        Consumer<TreeTongues> setup = MachineEdges::three;
        bench.stays(25, "LARGE a", setup, x -> x.unlike(1, 2), LARGE);
        bench.stays(25, "LARGE b", setup, x -> x.unlike(2, 1), LARGE);
        bench.stays(25, "LARGE both, though the same", setup, x -> x.unlike(1, 1), LARGE);
        bench.stays(25, "LARGE a and BAD b", setup, x -> x.unlike(1, 3), BAD);
        bench.stays(25, "BAD a and LARGE b", setup, x -> x.unlike(-1, 1), BAD);
    }

    private static void unlikeMayBeLarge() {
        Consumer<TreeTongues> setup = x -> {
            Bench.signs(x, 0, 1);
            Bench.setRow(x, 1, 0);
            Bench.loop(x, 1, 3);
            Bench.loop(x, 1, 2);
            Bench.evenButNone(x, 1);
        };
        bench.stays(25, "APART has seven classes", setup, x -> x.unlike(2, 0), LARGE);
        bench.stays(25, "APART has seven classes", setup, x -> x.unlike(0, 2), LARGE);
        TreeTongues x = Bench.made(setup);
        bench.due(25, "APART has six classes", x.unlike(0, 1), 3);
        bench.dueRow(25, "two steps", x, 1, 1, 0);
        bench.due(18, "six", x.classes(x.of(3, 0, 1)), 6);
    }

    // ---- an end

    private static void endsAndNoEnds() {
        TreeTongues x = Bench.made(Bench::common);
        bench.due(26, "no tree", x.ends(x.tongue(1)), 1);
        bench.due(26, "one leaf", x.ends(Bench.onlyLeaf(x, 0)), 1);
        bench.due(26, "the longest chain", x.ends(Bench.chain(x, 2, 4)), 1);
        bench.due(26, "all trees", x.ends(Bench.all(x)), 0);
        bench.due(26, "all but one", x.ends(x.not(1)), 0);
        for (int length = 1; length <= 5; length++) {
            bench.due(26, "round by " + length + " classes", x.ends(Bench.loop(x, 2, length)), 0);
        }
        TreeTongues leaves = Bench.withSigns(0, 0, 0, 0, 0, 0);
        bench.due(26, "leaves alone: all trees", leaves.ends(Bench.all(leaves)), 1);
        bench.due(26, "leaves alone: not none", leaves.ends(leaves.not(leaves.tongue(1))), 1);
        // a pair whose second part alone may grow
        TreeTongues y = Bench.made(Bench::common);
        int t = y.tongue(3);
        y.rule(t, 0, 0, 0, 0);
        y.rule(t, 1, 0, 0, 1);
        y.rule(t, 3, 0, 1, 1);
        bench.due(26, "it may grow, but not into a final state", y.ends(t), 1);
        y.last(t, 0, true);
        bench.due(26, "nor into this one", y.ends(t), 1);
        y.last(t, 1, true);
        bench.due(26, "into this one", y.ends(t), 0);
    }

    private static void largeOnesKeepTheRow() {
        for (int[] row : new int[][] {{}, {3, 0}, {1}}) {
            Consumer<TreeTongues> setup = threeWithRow(row);
            bench.stays(24, "LARGE: the row stays", setup, x -> x.least(1), LARGE);
            bench.stays(25, "LARGE: the row stays", setup, x -> x.unlike(0, 1), LARGE);
            bench.stays(28, "LARGE: the row stays", setup, x -> x.tree(1, 0), LARGE);
        }
        bench.stays(24, "LARGE: a full row", MachineEdges::threeWithFullRow, x -> x.least(1),
                LARGE);
    }
}
