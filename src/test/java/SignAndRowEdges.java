import java.util.function.Consumer;

/** The edges of promises 1 to 6 and 30: signs, ranks, the row, and what is told of them. */
public final class SignAndRowEdges {
    private static final Bench bench = new Bench();
    private static final int BAD = Bench.BAD, NOT = Bench.NOT, FULL = Bench.FULL;

    public static void main(String[] args) {
        theLooksSeeChanges();
        aNewObject();
        ranksOfNewSigns();
        theSeventhSign();
        signsWhileATongueIsThere();
        theFirstThatFitsForSign();
        rankOfNoSign();
        putNoSign();
        theRowIsFull();
        theFirstThatFitsForPut();
        dropping();
        atNoNumber();
        toldOfNothing();
        toldUpToTheBounds();
        treesAndNoTrees();
        bench.end();
    }

    private static Consumer<TreeTongues> with(int... ranks) {
        return x -> Bench.signs(x, ranks);
    }

    private static void sixSigns(TreeTongues x) {
        Bench.signs(x, 0, 1, 2, 2, 1, 0);
    }

    /** A check of the tests themselves: each call that changes something must be seen to. */
    private static void theLooksSeeChanges() {
        Consumer<TreeTongues> setup = x -> {
            Bench.common(x);
            Bench.setRow(x, 2, 0);
            Bench.withoutOne(x);
            Bench.chain(x, 2, 2);
        };
        seen("sign", with(0), x -> x.sign(2));
        seen("put", setup, x -> x.put(0));
        seen("drop", setup, x -> x.drop());
        seen("tongue", setup, x -> x.tongue(1));
        seen("rule", setup, x -> x.rule(1, 1, 0, 0, 1));
        seen("a rule that is there", setup, x -> x.rule(1, 0, 0, 0, 0));
        seen("last", setup, x -> x.last(1, 1, true));
        seen("of", setup, x -> x.of(0, 0, 1));
        seen("undo", setup, x -> x.undo());
        seen("least", setup, x -> x.least(1));
        bench.due(0, "a call that changes nothing", Bench.changesSeen(setup, x -> x.classes(1)), 0);
    }

    private static void seen(String what, Consumer<TreeTongues> setup,
            java.util.function.ToLongFunction<TreeTongues> call) {
        bench.due(0, what + " is seen", Bench.changesSeen(setup, call) > 0 ? 1 : 0, 1);
    }

    private static void aNewObject() {
        TreeTongues x = new TreeTongues();
        bench.due(1, "no signs", x.told(0), 0);
        bench.due(1, "an empty row", x.told(1), 0);
        bench.due(1, "no tongues", x.told(2), 0);
        bench.due(1, "the first sign", x.sign(1), 0);
        bench.due(1, "the first number", x.put(0), 1);
        bench.due(1, "the first tongue", x.tongue(1), 0);
        TreeTongues y = new TreeTongues();
        for (int what = 0; what < 4; what++) {
            bench.due(1, "another new object, told " + what, y.told(what), 0);
        }
    }

    private static void ranksOfNewSigns() {
        for (int rank : new int[] {-1, 3, Bench.LOWEST, Bench.HIGHEST}) {
            bench.stays(2, "no such rank: " + rank, x -> { }, x -> x.sign(rank), BAD);
            bench.stays(2, "no such rank: " + rank, with(0, 2), x -> x.sign(rank), BAD);
        }
        for (int rank = 0; rank <= 2; rank++) {
            TreeTongues x = new TreeTongues();
            bench.due(2, "a sign of rank " + rank, x.sign(rank), 0);
            bench.due(3, "its rank", x.rank(0), rank);
        }
    }

    private static void theSeventhSign() {
        TreeTongues x = new TreeTongues();
        for (int s = 0; s < 6; s++) {
            bench.due(2, "sign " + s, x.sign(s % 3), s);
        }
        for (int rank = 0; rank <= 2; rank++) {
            int r = rank;
            bench.stays(2, "a seventh of rank " + r, SignAndRowEdges::sixSigns, y -> y.sign(r),
                    FULL);
        }
    }

    private static void signsWhileATongueIsThere() {
        bench.stays(2, "a told one is there", x -> {
            Bench.signs(x, 0, 1);
            x.tongue(1);
        }, x -> x.sign(0), NOT);
        bench.stays(2, "a told and a made one are there", x -> {
            Bench.signs(x, 0, 1);
            x.not(x.tongue(1));
        }, x -> x.sign(0), NOT);
        bench.stays(2, "of two, one is left", x -> {
            Bench.signs(x, 0, 1);
            x.tongue(1);
            x.tongue(1);
            x.undo();
        }, x -> x.sign(2), NOT);
        TreeTongues x = Bench.withSigns(0, 1);
        x.tongue(1);
        x.undo();
        bench.due(2, "none is left", x.sign(2), 2);
        bench.due(3, "its rank", x.rank(2), 2);
        int t = x.tongue(1);
        bench.due(8, "it can be in rules", x.rule(t, 2, 0, 0, 0), 1);
        bench.due(2, "a tongue is there again", x.sign(0), NOT);
    }

    private static void theFirstThatFitsForSign() {
        Consumer<TreeTongues> full = x -> {
            sixSigns(x);
            x.tongue(1);
        };
        Consumer<TreeTongues> notFull = x -> {
            Bench.signs(x, 0);
            x.tongue(1);
        };
        bench.stays(2, "BAD, NOT and FULL", full, x -> x.sign(3), BAD);
        bench.stays(2, "BAD, NOT and FULL", full, x -> x.sign(-1), BAD);
        bench.stays(2, "NOT and FULL", full, x -> x.sign(0), NOT);
        bench.stays(2, "BAD and NOT", notFull, x -> x.sign(3), BAD);
        bench.stays(2, "BAD and FULL", SignAndRowEdges::sixSigns, x -> x.sign(-1), BAD);
    }

    private static void rankOfNoSign() {
        for (int many = 0; many <= 6; many++) {
            int[] ranks = java.util.Arrays.copyOf(new int[] {2, 1, 0, 0, 1, 2}, many);
            for (int s : new int[] {-1, many, 6, 7, Bench.LOWEST, Bench.HIGHEST}) {
                bench.stays(3, many + " signs, sign " + s, with(ranks), x -> x.rank(s), BAD);
            }
            for (int s = 0; s < many; s++) {
                bench.due(3, many + " signs, sign " + s, Bench.withSigns(ranks).rank(s), ranks[s]);
            }
        }
    }

    private static void putNoSign() {
        for (int s : new int[] {-1, 3, 6, Bench.LOWEST, Bench.HIGHEST}) {
            bench.stays(4, "no sign " + s + ", empty row", with(0, 1, 2), x -> x.put(s), BAD);
            bench.stays(4, "no sign " + s + ", a number there", x -> {
                Bench.signs(x, 0, 1, 2);
                x.put(2);
            }, x -> x.put(s), BAD);
        }
        TreeTongues x = new TreeTongues();
        sixSigns(x);
        bench.due(4, "the first sign", x.put(0), 1);
        bench.due(4, "the last sign", x.put(5), 2);
        x.tongue(1);
        bench.due(4, "while a tongue is there", x.put(3), 3);
        bench.dueRow(4, "as they were put", x, 0, 5, 3);
    }

    private static void fullRow(TreeTongues x) {
        Bench.common(x);
        Bench.setRowOf(x, 119, 2, 1);
    }

    private static void theRowIsFull() {
        TreeTongues x = Bench.withSigns(0, 1);
        for (int i = 1; i <= 119; i++) {
            x.put(1);
        }
        bench.due(4, "119 are there", x.told(1), 119);
        bench.due(4, "number 120", x.put(0), 120);
        bench.due(4, "one more", x.put(0), FULL);
        bench.due(5, "how many it had", x.drop(), 120);
        bench.due(4, "room again", x.put(0), 1);
        for (int s = 0; s < 4; s++) {
            int sign = s;
            bench.stays(4, "one more", SignAndRowEdges::fullRow, y -> y.put(sign), FULL);
        }
    }

    private static void theFirstThatFitsForPut() {
        bench.stays(4, "BAD and FULL", SignAndRowEdges::fullRow, x -> x.put(-1), BAD);
        bench.stays(4, "BAD and FULL", SignAndRowEdges::fullRow, x -> x.put(4), BAD);
    }

    private static void dropping() {
        bench.stays(5, "an empty row of a new object", x -> { }, x -> x.drop(), 0);
        bench.stays(5, "an empty row", Bench::common, x -> x.drop(), 0);
        TreeTongues x = Bench.withSigns(0, 1);
        x.put(1);
        bench.due(5, "one number", x.drop(), 1);
        bench.due(5, "none any more", x.drop(), 0);
        bench.due(5, "the signs stay", x.told(0), 2);
        x.tongue(1);
        x.put(0);
        bench.due(5, "one number", x.drop(), 1);
        bench.due(5, "the tongues stay", x.told(2), 1);
        TreeTongues y = Bench.made(SignAndRowEdges::fullRow);
        bench.due(5, "a full row", y.drop(), 120);
        bench.due(5, "none any more", y.told(1), 0);
        bench.due(6, "nor a first one", y.at(0), BAD);
    }

    private static void atNoNumber() {
        for (int i : new int[] {-1, 0, 1, 119, 120, Bench.LOWEST, Bench.HIGHEST}) {
            bench.stays(6, "an empty row, number " + i, Bench::common, x -> x.at(i), BAD);
        }
        for (int i : new int[] {-1, 3, 119, 120, Bench.LOWEST, Bench.HIGHEST}) {
            bench.stays(6, "three numbers, number " + i, x -> {
                Bench.common(x);
                Bench.setRow(x, 3, 1, 0);
            }, x -> x.at(i), BAD);
        }
        for (int i : new int[] {-1, 120, 121, Bench.LOWEST, Bench.HIGHEST}) {
            bench.stays(6, "a full row, number " + i, SignAndRowEdges::fullRow, x -> x.at(i), BAD);
        }
        TreeTongues x = Bench.made(SignAndRowEdges::fullRow);
        bench.due(6, "the first", x.at(0), 2);
        bench.due(6, "the last but one", x.at(118), 2);
        bench.due(6, "the last", x.at(119), 1);
        Bench.setRow(x, 3);
        bench.due(6, "the only one", x.at(0), 3);
        bench.due(6, "behind it", x.at(1), BAD);
    }

    private static void toldOfNothing() {
        for (int what : new int[] {-1, 4, Bench.LOWEST, Bench.HIGHEST}) {
            bench.stays(30, "told " + what, x -> { }, x -> x.told(what), BAD);
            bench.stays(30, "told " + what, SignAndRowEdges::fullRow, x -> x.told(what), BAD);
        }
    }

    private static void toldUpToTheBounds() {
        TreeTongues x = new TreeTongues();
        for (int s = 0; s < 6; s++) {
            bench.due(30, "signs", x.told(0), s);
            x.sign(s == 0 ? 0 : 1);
        }
        bench.due(30, "six signs", x.told(0), 6);
        for (int i = 0; i < 119; i++) {
            bench.due(30, "numbers", x.told(1), i);
            x.put(1);
        }
        x.put(0);
        bench.due(30, "120 numbers", x.told(1), 120);
        bench.due(30, "are a tree", x.told(3), 1);
        for (int t = 0; t < 16; t++) {
            bench.due(30, "tongues", x.told(2), t);
            x.tongue(1 + t % 5);
        }
        bench.due(30, "sixteen tongues", x.told(2), 16);
        x.sign(0);
        x.put(0);
        x.tongue(1);
        bench.due(30, "refused: signs", x.told(0), 6);
        bench.due(30, "refused: numbers", x.told(1), 120);
        bench.due(30, "refused: tongues", x.told(2), 16);
    }

    private static void treesAndNoTrees() {
        int[][] trees = {{0}, {2, 0}, {3, 0, 1}, {3, 2, 0, 1}, {3, 3, 0, 0, 1}, {3, 0, 3, 0, 1},
            {2, 3, 2, 1, 2, 2, 0}};
        int[][] others = {{}, {2}, {3}, {3, 0}, {0, 0}, {2, 0, 0}, {3, 0, 1, 0}, {3, 3, 0, 0},
            {0, 2}, {0, 3, 0, 0}, {2, 2}, {3, 2, 0}, {3, 0, 2}};
        TreeTongues x = Bench.made(Bench::common);
        for (int[] row : trees) {
            Bench.setRow(x, row);
            bench.due(30, "a tree of " + row.length, x.told(3), 1);
        }
        for (int[] row : others) {
            Bench.setRow(x, row);
            bench.due(30, "no tree of " + row.length, x.told(3), 0);
        }
        TreeTongues y = Bench.made(Bench::common);
        Bench.setRowOf(y, 119, 2, 2);
        bench.due(30, "a full row that has no leaf", y.told(3), 0);
        Bench.setRowOf(y, 119, 0, 0);
        bench.due(30, "a full row of leaves", y.told(3), 0);
        // 59 pairs want 60 leaves: 119 numbers, and one of rank 1 ahead makes 120
        y = Bench.made(Bench::common);
        y.put(2);
        for (int i = 0; i < 59; i++) {
            y.put(3);
        }
        for (int i = 0; i < 60; i++) {
            bench.due(30, "a leaf is missing", y.told(3), 0);
            y.put(i % 2);
        }
        bench.due(30, "a full row of pairs", y.told(3), 1);
        bench.due(30, "its numbers", y.told(1), 120);
    }
}
