import java.math.BigInteger;
import java.util.ArrayList;
import java.util.List;
import java.util.function.Consumer;

/** The edges of promises 27 to 29: counts, trees by number, places of trees. */
public final class NumberEdges {
    private static final Bench bench = new Bench();
    private static final int NONE = Bench.NONE, BAD = Bench.BAD, LARGE = Bench.LARGE;
    private static final long CAP = Bench.CAP;
    private static final int[] NO_TONGUES = {-1, 3, 16, Bench.LOWEST, Bench.HIGHEST};

    public static void main(String[] args) {
        sizesToCount();
        countsThatAreRefused();
        countsAboutTheBound();
        countsOfAllTrees();
        countsByClasses();
        numbersOfTrees();
        theFirstThatFitsForTree();
        noTreeOfThatNumber();
        treesOfSizeForty();
        theLastTreeOfAll();
        treesAboutTheBound();
        treesAsTheyComeInOrder();
        placesThatAreRefused();
        placesOfSizeForty();
        placesOfTreesThatAreNotIn();
        placesAboutTheBound();
        bench.end();
    }

    // ---- objects to begin with

    /** Tongue 0 has trees of all sizes, 1 is large, 2 is empty; the row is a tree. */
    private static void three(TreeTongues x) {
        Bench.common(x);
        Bench.withoutOne(x);
        Bench.sevenClasses(x);
        x.tongue(1);
        Bench.setRow(x, 3, 0, 2, 1);
    }

    private static Consumer<TreeTongues> threeWithRow(int... row) {
        return x -> {
            three(x);
            Bench.setRow(x, row);
        };
    }

    private static Consumer<TreeTongues> threeWithSteps(int steps, int end) {
        return x -> {
            three(x);
            Bench.setRowOf(x, steps, 2, end);
        };
    }

    /** One leaf and five signs of rank 1. */
    private static void fiveSteps(TreeTongues x) {
        Bench.signs(x, 0, 1, 1, 1, 1, 1);
    }

    /**
     * Chains upon leaf 0 whose odd steps are any of signs 1 .. 5, the even ones 1 or 2: with 36
     * steps they are 10^18. States 0 and 1 have those of sign 1 alone, 2 and 3 the others.
     */
    private static int tens(TreeTongues x) {
        int t = x.tongue(5);
        x.rule(t, 0, 0, 0, 0);
        x.rule(t, 1, 0, 0, 1);
        x.rule(t, 1, 1, 0, 0);
        for (int s = 2; s <= 5; s++) {
            x.rule(t, s, 0, 0, 3);
        }
        x.rule(t, 2, 1, 0, 2);
        for (int s = 1; s <= 5; s++) {
            x.rule(t, s, 2, 0, 3);
        }
        x.rule(t, 1, 3, 0, 2);
        x.rule(t, 2, 3, 0, 2);
        x.last(t, 2, true);
        x.last(t, 3, true);
        return t;
    }

    // ---- count

    private static void sizesToCount() {
        for (int n : new int[] {0, -1, 41, 42, Bench.LOWEST, Bench.HIGHEST}) {
            for (int tongue = 0; tongue < 3; tongue++) {
                int t = tongue;
                bench.stays(27, "tongue " + t + ", size " + n, NumberEdges::three,
                        x -> x.count(t, n), -1);
            }
        }
        TreeTongues x = Bench.withSigns(0, 1);
        int t = Bench.all(x);
        bench.due(27, "size 1", x.count(t, 1), 1);
        bench.due(27, "size 40", x.count(t, 40), 1);
        bench.due(27, "size 41", x.count(t, 41), -1);
        int none = x.tongue(1);
        for (int n = 1; n <= 40; n++) {
            bench.due(27, "no trees of size " + n, x.count(none, n), 0);
        }
    }

    private static void countsThatAreRefused() {
        for (int t : NO_TONGUES) {
            bench.stays(27, "no tongue " + t, NumberEdges::three, x -> x.count(t, 1), -1);
            bench.stays(27, "no tongue " + t + " and no size", NumberEdges::three,
                    x -> x.count(t, 0), -1);
        }
        bench.stays(27, "LARGE", NumberEdges::three, x -> x.count(1, 1), -1);
        bench.stays(27, "LARGE", NumberEdges::three, x -> x.count(1, 40), -1);
        bench.stays(27, "LARGE and no size", NumberEdges::three, x -> x.count(1, 41), -1);
    }

    private static void countsAboutTheBound() {
        TreeTongues x = Bench.made(NumberEdges::fiveSteps);
        int t = tens(x);
        bench.due(27, "with 34 steps", x.count(t, 35), CAP / 10 - 1);
        bench.due(27, "with 35 steps", x.count(t, 36), CAP / 2 - 1);
        bench.due(27, "one below the bound", x.count(t, 37), 999999999999999999L);
        bench.due(27, "far above it", x.count(t, 38), CAP);
        x.last(t, 0, true);
        x.last(t, 1, true);
        bench.due(27, "with 35 steps", x.count(t, 36), CAP / 2);
        bench.due(27, "just the bound", x.count(t, 37), CAP);
        bench.due(27, "far above it", x.count(t, 38), CAP);
        // the chains of sign 5 alone are in no other state from the second step on
        x.rule(t, 0, 0, 0, 4);
        x.rule(t, 5, 4, 0, 4);
        x.last(t, 4, true);
        bench.due(27, "with 35 steps and one more", x.count(t, 36), CAP / 2 + 1);
        bench.due(27, "one above the bound", x.count(t, 37), CAP);
        bench.due(27, "and of size 40", x.count(t, 40), CAP);
    }

    /** Signs of the ranks 0, 1, 2, so many of each; or the other way round. */
    private static int[] ranksOf(int leaves, int steps, int pairs, boolean isTurned) {
        int[] ranks = new int[leaves + steps + pairs];
        for (int i = 0; i < ranks.length; i++) {
            int rank = i < leaves ? 0 : i < leaves + steps ? 1 : 2;
            ranks[isTurned ? ranks.length - 1 - i : i] = rank;
        }
        return ranks;
    }

    /** How many trees of each size there are over signs of these ranks, without any bound. */
    private static BigInteger[] countsOver(int[] ranks) {
        BigInteger[] counts = new BigInteger[43];
        counts[0] = BigInteger.ZERO;
        for (int n = 1; n < counts.length; n++) {
            counts[n] = BigInteger.ZERO;
            for (int rank : ranks) {
                if (rank == 0 && n == 1) {
                    counts[n] = counts[n].add(BigInteger.ONE);
                }
                if (rank == 1) {
                    counts[n] = counts[n].add(counts[n - 1]);
                }
                for (int i = 1; rank == 2 && i < n - 1; i++) {
                    counts[n] = counts[n].add(counts[i].multiply(counts[n - 1 - i]));
                }
            }
        }
        return counts;
    }

    private static long cut(BigInteger number) {
        return number.min(BigInteger.valueOf(CAP)).longValueExact();
    }

    private static List<int[]> allRanks() {
        List<int[]> list = new ArrayList<>();
        for (int leaves = 1; leaves <= 6; leaves++) {
            for (int steps = 0; leaves + steps <= 6; steps++) {
                for (int pairs = 0; leaves + steps + pairs <= 6; pairs++) {
                    list.add(ranksOf(leaves, steps, pairs, false));
                    list.add(ranksOf(leaves, steps, pairs, true));
                }
            }
        }
        return list;
    }

    private static void countsOfAllTrees() {
        for (int[] ranks : allRanks()) {
            TreeTongues x = Bench.withSigns(ranks);
            int t = Bench.all(x);
            BigInteger[] counts = countsOver(ranks);
            for (int n = 1; n <= 40; n++) {
                bench.due(27, "signs " + java.util.Arrays.toString(ranks) + ", size " + n,
                        x.count(t, n), cut(counts[n]));
            }
        }
    }

    /** Pairs whose first part is a leaf, and no other trees: products by as many as leaves. */
    private static int leafFirst(TreeTongues x, int[] ranks) {
        int t = x.tongue(3);
        for (int s = 0; s < ranks.length; s++) {
            if (ranks[s] == 0) {
                x.rule(t, s, 0, 0, 0);
                x.rule(t, s, 0, 0, 1);
            } else {
                x.rule(t, s, 0, 0, 0);
                if (ranks[s] == 2) {
                    x.rule(t, s, 1, 0, 2);
                }
            }
        }
        x.last(t, 2, true);
        return t;
    }

    /** The same, the second part being the leaf. */
    private static int leafSecond(TreeTongues x, int[] ranks) {
        int t = x.tongue(3);
        for (int s = 0; s < ranks.length; s++) {
            x.rule(t, s, 0, 0, 0);
            if (ranks[s] == 0) {
                x.rule(t, s, 0, 0, 1);
            } else if (ranks[s] == 2) {
                x.rule(t, s, 0, 1, 2);
            }
        }
        x.last(t, 2, true);
        return t;
    }

    /** The number of leaves is a multiple of three. */
    private static int leavesByThree(TreeTongues x, int[] ranks) {
        int t = x.tongue(3);
        for (int s = 0; s < ranks.length; s++) {
            for (int q = 0; q < 3; q++) {
                if (ranks[s] == 0 && q == 0) {
                    x.rule(t, s, 0, 0, 1);
                } else if (ranks[s] == 1) {
                    x.rule(t, s, q, 0, q);
                }
            }
        }
        for (int s = 0; s < ranks.length; s++) {
            for (int q = 0; ranks[s] == 2 && q < 9; q++) {
                x.rule(t, s, q % 3, q / 3, (q % 3 + q / 3) % 3);
            }
        }
        x.last(t, 0, true);
        return t;
    }

    private static int byKind(TreeTongues x, int[] ranks, int kind) {
        return kind == 0 ? leafFirst(x, ranks) : kind == 1 ? leafSecond(x, ranks)
                : leavesByThree(x, ranks);
    }

    /** Counts without any bound, by the machine that the class tells. */
    private static BigInteger[] countsBy(TreeTongues x, int t, int[] ranks) {
        int many = x.classes(t);
        BigInteger[][] counts = new BigInteger[41][many];
        BigInteger[] sums = new BigInteger[41];
        java.util.Arrays.fill(counts[0], BigInteger.ZERO);
        for (int n = 1; n <= 40; n++) {
            java.util.Arrays.fill(counts[n], BigInteger.ZERO);
        }
        int[][][] to = new int[ranks.length][many][many];
        for (int s = 0; s < ranks.length; s++) {
            for (int a = 0; a < (ranks[s] > 0 ? many : 1); a++) {
                for (int b = 0; b < (ranks[s] > 1 ? many : 1); b++) {
                    to[s][a][b] = x.go(t, s, a, b);
                }
            }
        }
        for (int n = 1; n <= 40; n++) {
            for (int s = 0; s < ranks.length; s++) {
                addCounts(counts, n, ranks[s], to[s]);
            }
            sums[n] = BigInteger.ZERO;
            for (int c = 0; c < many; c++) {
                sums[n] = x.isLast(t, c) == 1 ? sums[n].add(counts[n][c]) : sums[n];
            }
        }
        return sums;
    }

    private static void addCounts(BigInteger[][] counts, int n, int rank, int[][] to) {
        int many = to.length;
        if (rank == 0 && n == 1) {
            counts[n][to[0][0]] = counts[n][to[0][0]].add(BigInteger.ONE);
        }
        for (int a = 0; rank == 1 && a < many; a++) {
            counts[n][to[a][0]] = counts[n][to[a][0]].add(counts[n - 1][a]);
        }
        for (int a = 0; rank == 2 && a < many; a++) {
            for (int b = 0; b < many; b++) {
                for (int i = 1; i < n - 1; i++) {
                    BigInteger more = counts[i][a].multiply(counts[n - 1 - i][b]);
                    counts[n][to[a][b]] = counts[n][to[a][b]].add(more);
                }
            }
        }
    }

    private static void countsByClasses() {
        for (int[] ranks : allRanks()) {
            for (int kind = 0; kind < 3; kind++) {
                TreeTongues x = Bench.withSigns(ranks);
                int t = byKind(x, ranks, kind);
                BigInteger[] counts = countsBy(x, t, ranks);
                TreeTongues y = Bench.withSigns(ranks);
                byKind(y, ranks, kind);
                for (int n = 1; n <= 40; n++) {
                    bench.due(27, "kind " + kind + ", signs " + java.util.Arrays.toString(ranks)
                            + ", size " + n, y.count(t, n), cut(counts[n]));
                }
            }
        }
    }

    // ---- tree

    private static void numbersOfTrees() {
        long[] odd = {-1, CAP, CAP + 1, Long.MIN_VALUE, Long.MAX_VALUE, 1L << 63 | 1, -CAP};
        for (long k : odd) {
            for (int tongue = 0; tongue < 3; tongue++) {
                int t = tongue;
                bench.stays(28, "tongue " + t + ", number " + k, NumberEdges::three,
                        x -> x.tree(t, k), BAD);
            }
        }
        TreeTongues x = Bench.made(NumberEdges::three);
        bench.due(28, "number 0", x.tree(0, 0), 1);
        bench.dueRow(28, "number 0", x, 0);
        bench.due(28, "the highest number is looked for", x.tree(2, CAP - 1), NONE);
        // a number that is 0 in its lower 32 bits is not number 0
        Bench.onlyLeaf(x, 0);
        bench.due(28, "2 to the 32", x.tree(3, 1L << 32), NONE);
    }

    private static void theFirstThatFitsForTree() {
        for (int t : NO_TONGUES) {
            bench.stays(28, "no tongue " + t, NumberEdges::three, x -> x.tree(t, 0), BAD);
            bench.stays(28, "no tongue " + t + ", no number", NumberEdges::three,
                    x -> x.tree(t, -1), BAD);
        }
        bench.stays(28, "LARGE", NumberEdges::three, x -> x.tree(1, 0), LARGE);
        bench.stays(28, "LARGE", NumberEdges::three, x -> x.tree(1, CAP - 1), LARGE);
        bench.stays(28, "BAD and LARGE", NumberEdges::three, x -> x.tree(1, CAP), BAD);
        bench.stays(28, "BAD and LARGE", NumberEdges::three, x -> x.tree(1, -1), BAD);
    }

    private static void noTreeOfThatNumber() {
        for (long k : new long[] {0, 1, CAP - 1}) {
            bench.stays(28, "a tree stays", NumberEdges::three, x -> x.tree(2, k), NONE);
            bench.stays(28, "no tree stays", threeWithRow(3, 0), x -> x.tree(2, k), NONE);
            bench.stays(28, "an empty row stays", threeWithRow(), x -> x.tree(2, k), NONE);
            bench.stays(28, "a full row stays", threeWithSteps(119, 1), x -> x.tree(2, k), NONE);
        }
        Consumer<TreeTongues> leaves = x -> {
            Bench.signs(x, 0, 0, 0);
            Bench.all(x);
            Bench.setRow(x, 2, 2);
        };
        TreeTongues x = Bench.made(leaves);
        bench.due(28, "the last of three", x.tree(0, 2), 1);
        bench.dueRow(28, "the last of three", x, 2);
        bench.stays(28, "no fourth", leaves, y -> y.tree(0, 3), NONE);
    }

    /** Sizes that are so much more than a number of sixes, told by loops of two and of three. */
    private static int everySixth(TreeTongues x, int more) {
        int twos = Bench.loop(x, 1, 2);
        int threes = Bench.loop(x, 1, 3);
        x.last(twos, 0, false);
        x.last(threes, 0, false);
        x.last(twos, (more + 5) % 2, true);
        x.last(threes, (more + 5) % 3, true);
        return x.of(1, twos, threes);
    }

    private static void treesOfSizeForty() {
        for (int more = 0; more < 6; more++) {
            Consumer<TreeTongues> setup = sixth(more);
            int most = (40 - more) / 6;
            int least = more == 0 ? 1 : 0;
            TreeTongues x = Bench.made(setup);
            bench.due(28, "the longest", x.tree(2, most - least), more + 6 * most);
            bench.due(28, "its numbers", x.told(1), more + 6 * most);
            bench.due(29, "its place", x.place(2), most - least);
            // where more is 5, this one has 41 numbers
            bench.stays(28, "the next is too long", setup, y -> y.tree(2, most - least + 1), NONE);
        }
        TreeTongues y = Bench.withSigns(0, 1);
        int t = Bench.all(y);
        bench.due(28, "of size 40", y.tree(t, 39), 40);
        bench.due(28, "of size 41", y.tree(t, 40), NONE);
        bench.due(28, "the row stays", y.told(1), 40);
        // the leaf comes last of all signs: the others are looked at even at the deepest place
        for (int rank = 1; rank <= 2; rank++) {
            TreeTongues z = Bench.withSigns(rank, 1, 0);
            int v = z.tongue(1);
            z.rule(v, 1, 0, 0, 0);
            z.rule(v, 2, 0, 0, 0);
            z.last(v, 0, true);
            bench.due(28, "of size 40", z.tree(v, 39), 40);
            bench.due(28, "the last step", z.at(38), 1);
            bench.due(28, "the leaf", z.at(39), 2);
            bench.due(29, "its place", z.place(v), 39);
        }
    }

    private static Consumer<TreeTongues> sixth(int more) {
        return x -> {
            Bench.signs(x, 0, 1);
            everySixth(x, more);
        };
    }

    /** Four choices and two by turns: with 39 steps at most they are 5 * (8^20 - 1) / 7. */
    private static void theLastTreeOfAll() {
        Consumer<TreeTongues> setup = x -> {
            Bench.signs(x, 0, 1, 1, 1, 1);
            x.tongue(2);
            x.rule(0, 0, 0, 0, 0);
            for (int s = 1; s <= 4; s++) {
                x.rule(0, s, 0, 0, 1);
            }
            x.rule(0, 1, 1, 0, 0);
            x.rule(0, 4, 1, 0, 0);
            x.last(0, 0, true);
            x.last(0, 1, true);
        };
        long many = 823515360433462125L;
        TreeTongues x = Bench.made(setup);
        bench.due(28, "the last", x.tree(0, many - 1), 40);
        for (int i = 0; i < 39; i++) {
            bench.due(28, "it has the last sign everywhere", x.at(i), 4);
        }
        bench.due(28, "but for the leaf", x.at(39), 0);
        bench.due(29, "its place", x.place(0), many - 1);
        bench.stays(28, "none behind it", setup, y -> y.tree(0, many), NONE);
        bench.stays(28, "nor far behind it", setup, y -> y.tree(0, CAP - 1), NONE);
    }

    /** The tree of this size that so many of that size are ahead of, among all trees. */
    private static int[] treeAmongAll(int[] ranks, BigInteger[] counts, int size, BigInteger k) {
        BigInteger left = k;
        for (int s = 0; s < ranks.length; s++) {
            int least = ranks[s] == 0 ? 0 : ranks[s] == 1 ? size - 1 : 1;
            int most = ranks[s] == 2 ? size - 2 : least;
            for (int first = least; first <= most; first++) {
                int second = ranks[s] == 2 ? size - 1 - first : 0;
                BigInteger seconds = second > 0 ? counts[second] : BigInteger.ONE;
                BigInteger firsts = first > 0 ? counts[first] : BigInteger.ONE;
                boolean isLeaf = ranks[s] == 0;
                BigInteger many = isLeaf && size > 1 || !isLeaf && first < 1 ? BigInteger.ZERO
                        : firsts.multiply(seconds);
                if (left.compareTo(many) < 0) {
                    int[] tree = {s};
                    if (first > 0) {
                        tree = joined(tree, treeAmongAll(ranks, counts, first,
                                left.divide(seconds)));
                    }
                    if (second > 0) {
                        tree = joined(tree, treeAmongAll(ranks, counts, second,
                                left.mod(seconds)));
                    }
                    return tree;
                }
                left = left.subtract(many);
            }
        }
        return new int[0];
    }

    private static int[] joined(int[] one, int[] other) {
        int[] both = java.util.Arrays.copyOf(one, one.length + other.length);
        System.arraycopy(other, 0, both, one.length, other.length);
        return both;
    }

    /** The tree that k others are ahead of, among all; no numbers, if it has more than 40. */
    private static int[] treeAmongAll(int[] ranks, BigInteger[] counts, BigInteger k) {
        BigInteger left = k;
        for (int size = 1; size <= 40; size++) {
            if (left.compareTo(counts[size]) < 0) {
                return treeAmongAll(ranks, counts, size, left);
            }
            left = left.subtract(counts[size]);
        }
        return new int[0];
    }

    private static void treesAboutTheBound() {
        long[] numbers = {CAP - 1, CAP - 2, CAP / 2, CAP / 7 * 3, 1L << 32, (1L << 31) - 1};
        for (int[] ranks : allRanks()) {
            BigInteger[] counts = countsOver(ranks);
            TreeTongues x = Bench.withSigns(ranks);
            int t = Bench.all(x);
            for (long k : numbers) {
                String what = "signs " + java.util.Arrays.toString(ranks) + ", tree " + k;
                int[] want = treeAmongAll(ranks, counts, BigInteger.valueOf(k));
                bench.due(28, what, x.tree(t, k), want.length == 0 ? NONE : want.length);
                if (want.length > 0) {
                    bench.dueRow(28, what, x, want);
                    bench.due(29, what + ": its place", x.place(t), k);
                }
            }
        }
    }

    /** All trees over signs of these ranks up to a size, in order. */
    private static List<int[]> inOrder(int[] ranks, int most) {
        List<List<int[]>> bySize = new ArrayList<>();
        List<int[]> all = new ArrayList<>();
        bySize.add(List.of());
        for (int n = 1; n <= most; n++) {
            List<int[]> list = new ArrayList<>();
            for (int s = 0; s < ranks.length; s++) {
                int[] alone = {s};
                if (ranks[s] == 0 && n == 1) {
                    list.add(alone);
                }
                for (int i = 1; ranks[s] > 0 && i < n; i++) {
                    if (ranks[s] == 1 && i == n - 1) {
                        bySize.get(i).forEach(part -> list.add(joined(alone, part)));
                    }
                    for (int[] first : ranks[s] == 2 ? bySize.get(i) : List.<int[]>of()) {
                        bySize.get(n - 1 - i).forEach(
                                second -> list.add(joined(joined(alone, first), second)));
                    }
                }
            }
            bySize.add(list);
            all.addAll(list);
        }
        return all;
    }

    /** Every small tree: its place is how many were in it so far, and the next number finds it. */
    private static void treesAsTheyComeInOrder() {
        int[][] kinds = {{0, 0, 1, 2}, {2, 0, 0}, {1, 2, 0}, {2, 2, 0}, {2, 1, 0, 0}};
        for (int[] ranks : kinds) {
            List<int[]> trees = inOrder(ranks, ranks.length == 4 ? 5 : 7);
            for (int kind = 0; kind < 3; kind++) {
                int ahead = 0;
                for (int[] tree : trees) {
                    String what = "kind " + kind + ", tree " + java.util.Arrays.toString(tree);
                    TreeTongues x = Bench.withSigns(ranks);
                    int t = byKind(x, ranks, kind);
                    Bench.setRow(x, tree);
                    bench.due(29, what, x.place(t), ahead);
                    if (x.has(t) == 1) {
                        bench.due(28, what, x.tree(t, ahead), tree.length);
                        bench.dueRow(28, what, x, tree);
                        ahead++;
                    }
                }
            }
        }
    }

    // ---- place

    private static void placesThatAreRefused() {
        int[][] rows = {{}, {2}, {3, 0}, {0, 0}, {2, 0, 1}, {3, 0, 1, 0}};
        for (int[] row : rows) {
            for (int tongue = 0; tongue < 4; tongue++) {
                int t = tongue;
                bench.stays(29, "tongue " + t + ", no tree of " + row.length, threeWithRow(row),
                        x -> x.place(t), -1);
            }
        }
        for (int t : NO_TONGUES) {
            bench.stays(29, "no tongue " + t, NumberEdges::three, x -> x.place(t), -1);
        }
        bench.stays(29, "LARGE", NumberEdges::three, x -> x.place(1), -1);
        for (int steps : new int[] {40, 41, 119}) {
            for (int tongue = 0; tongue < 4; tongue++) {
                int t = tongue;
                bench.stays(29, "tongue " + t + ", a size of " + (steps + 1),
                        threeWithSteps(steps, 0), x -> x.place(t), -1);
            }
        }
    }

    private static void placesOfSizeForty() {
        TreeTongues x = Bench.withSigns(0, 1, 2);
        int t = x.tongue(1);
        x.rule(t, 0, 0, 0, 0);
        x.rule(t, 1, 0, 0, 0);
        x.last(t, 0, true);
        int none = x.tongue(1);
        for (int steps = 37; steps <= 40; steps++) {
            Bench.setRowOf(x, steps, 1, 0);
            bench.due(29, "of size " + (steps + 1), x.place(t), steps < 40 ? steps : -1);
            bench.due(29, "no trees", x.place(none), steps < 40 ? 0 : -1);
            bench.due(23, "it is in all the same", x.has(t), 1);
        }
        // 19 pairs have 20 leaves: 39 numbers, with one or two steps 40 and 41
        for (int steps = 0; steps <= 2; steps++) {
            x.drop();
            for (int i = 0; i < steps + 19; i++) {
                x.put(i < steps ? 1 : 2);
            }
            for (int i = 0; i < 20; i++) {
                x.put(0);
            }
            // ahead of it are the chains that are shorter, and the chain of its size
            bench.due(29, "pairs of size " + (39 + steps), x.place(t), steps < 2 ? 39 + steps : -1);
        }
    }

    private static void placesOfTreesThatAreNotIn() {
        TreeTongues x = Bench.made(NumberEdges::three);
        Bench.setRow(x, 0);
        bench.due(29, "the first of all trees", x.place(0), 0);
        Bench.setRow(x, 1);
        bench.due(29, "not in it: one is ahead", x.place(0), 1);
        bench.due(29, "no trees are ahead", x.place(2), 0);
        Bench.setRow(x, 2, 1);
        bench.due(29, "not in it: two are ahead", x.place(0), 2);
        // of its size there are 2 2 0 and 3 0 0
        Bench.setRow(x, 3, 1, 1);
        bench.due(29, "not in it: four are ahead", x.place(0), 4);
        int end = Bench.chain(x, 2, 2);
        Bench.setRow(x, 2, 2, 0);
        bench.due(29, "the only one", x.place(end), 0);
        Bench.setRow(x, 2, 2, 1);
        bench.due(29, "behind the only one", x.place(end), 1);
        Bench.setRowOf(x, 39, 2, 1);
        bench.due(29, "far behind the only one", x.place(end), 1);
    }

    /** The trees of the numbers 10^18 - 2 up to 10^18 + 1, written by the row. */
    private static void placesAboutTheBound() {
        BigInteger cap = BigInteger.valueOf(CAP);
        for (int[] ranks : allRanks()) {
            BigInteger[] counts = countsOver(ranks);
            TreeTongues x = Bench.withSigns(ranks);
            int t = Bench.all(x);
            for (int more = -2; more <= 1; more++) {
                int[] row = treeAmongAll(ranks, counts, cap.add(BigInteger.valueOf(more)));
                if (row.length > 0) {
                    Bench.setRow(x, row);
                    bench.due(29, "signs " + java.util.Arrays.toString(ranks) + ", place " + more,
                            x.place(t), CAP + Math.min(more, 0));
                }
            }
        }
        TreeTongues x = Bench.made(NumberEdges::fiveSteps);
        int t = tens(x);
        Bench.setRowOf(x, 39, 5, 0);
        bench.due(29, "far above the bound", x.place(t), CAP);
        Bench.setRowOf(x, 35, 5, 0);
        bench.due(29, "all of 35 steps are ahead", x.place(t), sumOfTens(36) - 36);
    }

    /** How many chains tens() has of sizes up to this one, those of sign 1 alone with them. */
    private static long sumOfTens(int most) {
        long sum = 0;
        long many = 1;
        for (int size = 1; size <= most; size++) {
            sum += many;
            many *= size % 2 == 1 ? 5 : 2;
        }
        return sum;
    }
}
