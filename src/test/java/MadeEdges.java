import java.util.List;
import java.util.function.Consumer;

/** The edges of promises 10 to 16: tongues that are made of others. */
public final class MadeEdges {
    private static final Bench bench = new Bench();
    private static final int NONE = Bench.NONE, BAD = Bench.BAD, NOT = Bench.NOT;
    private static final int FULL = Bench.FULL, LARGE = Bench.LARGE;
    private static final int SAME = Bench.SAME;

    /** How a tongue is made of a, and of b if it is made of two. */
    private interface Making {
        int of(TreeTongues x, int a, int b);
    }

    private record Maker(int promise, String name, boolean ofTwo, Making making) {
        int make(TreeTongues x, int a, int b) {
            return making.of(x, a, b);
        }
    }

    private static final List<Maker> MAKERS = List.of(
            new Maker(10, "either", true, (x, a, b) -> x.of(0, a, b)),
            new Maker(10, "both", true, (x, a, b) -> x.of(1, a, b)),
            new Maker(10, "less", true, (x, a, b) -> x.of(2, a, b)),
            new Maker(10, "apart", true, (x, a, b) -> x.of(3, a, b)),
            new Maker(11, "not", false, (x, a, b) -> x.not(a)),
            new Maker(12, "renamed", false, (x, a, b) -> x.renamed(a, SAME)),
            new Maker(13, "back", false, (x, a, b) -> x.back(a, SAME)),
            new Maker(14, "parts", false, (x, a, b) -> x.parts(a)),
            new Maker(15, "within", false, (x, a, b) -> x.within(a)),
            new Maker(16, "grafted", true, (x, a, b) -> x.grafted(a, 0, b)));

    /** The same calls, each with one more argument that is BAD, where it has one. */
    private static final List<Maker> WRONG_MAKERS = List.of(
            new Maker(10, "way -1", true, (x, a, b) -> x.of(-1, a, b)),
            new Maker(10, "way 4", true, (x, a, b) -> x.of(4, a, b)),
            new Maker(10, "lowest way", true, (x, a, b) -> x.of(Bench.LOWEST, a, b)),
            new Maker(10, "highest way", true, (x, a, b) -> x.of(Bench.HIGHEST, a, b)),
            new Maker(12, "a sign of another rank", false, (x, a, b) -> x.renamed(a, 0)),
            new Maker(12, "no such sign", false, (x, a, b) -> x.renamed(a, SAME | 4)),
            new Maker(12, "a figure too many", false, (x, a, b) -> x.renamed(a, SAME | 1 << 12)),
            new Maker(12, "a map below 0", false, (x, a, b) -> x.renamed(a, -1)),
            new Maker(13, "a sign of another rank", false, (x, a, b) -> x.back(a, 0)),
            new Maker(13, "no such sign", false, (x, a, b) -> x.back(a, SAME | 4)),
            new Maker(13, "a figure too many", false, (x, a, b) -> x.back(a, SAME | 1 << 12)),
            new Maker(13, "a map below 0", false, (x, a, b) -> x.back(a, -1)),
            new Maker(16, "sign -1", true, (x, a, b) -> x.grafted(a, -1, b)),
            new Maker(16, "sign 4 of four", true, (x, a, b) -> x.grafted(a, 4, b)),
            new Maker(16, "a sign of rank 1", true, (x, a, b) -> x.grafted(a, 2, b)),
            new Maker(16, "a sign of rank 2", true, (x, a, b) -> x.grafted(a, 3, b)),
            new Maker(16, "lowest sign", true, (x, a, b) -> x.grafted(a, Bench.LOWEST, b)),
            new Maker(16, "highest sign", true, (x, a, b) -> x.grafted(a, Bench.HIGHEST, b)));

    public static void main(String[] args) {
        numbersThatCome();
        noSuchTongue();
        wrongArguments();
        theSeventeenth();
        madeOfLargeOnes();
        theFirstThatFits();
        whatComesIsFull();
        madeOnesAreNotTold();
        toldLaterChangesNothing();
        sixClassesAndSeven();
        neverMoreClasses();
        figuresOfMaps();
        figuresForNoSign();
        fewSigns();
        leavesToGraftOn();
        nothingToMakeOf();
        bench.end();
    }

    // ---- objects to begin with

    /** Tongue 0 is large, 1 and 2 are not. */
    private static void largeAndSmall(TreeTongues x) {
        Bench.common(x);
        Bench.setRow(x, 3, 0);
        Bench.sevenClasses(x);
        Bench.withoutOne(x);
        Bench.onlyLeaf(x, 0);
    }

    private static void sixteen(TreeTongues x) {
        largeAndSmall(x);
        for (int t = 3; t < 16; t++) {
            x.tongue(2);
        }
    }

    private static void fifteen(TreeTongues x) {
        sixteen(x);
        x.undo();
    }

    // ---- what all makers share

    private static void numbersThatCome() {
        for (Maker m : MAKERS) {
            TreeTongues x = Bench.made(MadeEdges::largeAndSmall);
            bench.due(m.promise, m.name + ": its number", m.make(x, 1, 2), 3);
            bench.due(m.promise, m.name + ": the next number", m.make(x, 3, 2), 4);
            bench.due(m.promise, m.name + ": of itself", m.make(x, 4, 4), 5);
            bench.due(m.promise, m.name + ": tongues", x.told(2), 6);
            bench.dueRow(m.promise, m.name + ": the row stays", x, 3, 0);
            x.undo();
            x.undo();
            x.undo();
            bench.due(m.promise, m.name + ": the number again", m.make(x, 2, 1), 3);
        }
    }

    private static void noSuchTongue() {
        for (Maker m : MAKERS) {
            for (int t : new int[] {-1, 3, 15, 16, Bench.LOWEST, Bench.HIGHEST}) {
                bench.stays(m.promise, m.name + ": no a " + t, MadeEdges::largeAndSmall,
                        x -> m.make(x, t, 1), BAD);
                if (m.ofTwo) {
                    bench.stays(m.promise, m.name + ": no b " + t, MadeEdges::largeAndSmall,
                            x -> m.make(x, 1, t), BAD);
                    bench.stays(m.promise, m.name + ": neither " + t, MadeEdges::largeAndSmall,
                            x -> m.make(x, t, t), BAD);
                }
            }
            TreeTongues x = Bench.made(MadeEdges::fifteen);
            bench.due(m.promise, m.name + ": the last there is", m.make(x, 14, 14), 15);
        }
    }

    private static void wrongArguments() {
        for (Maker m : WRONG_MAKERS) {
            bench.stays(m.promise, m.name, MadeEdges::largeAndSmall, x -> m.make(x, 1, 2), BAD);
        }
    }

    private static void theSeventeenth() {
        for (Maker m : MAKERS) {
            TreeTongues x = Bench.made(MadeEdges::fifteen);
            bench.due(m.promise, m.name + ": the sixteenth", m.make(x, 1, 2), 15);
            bench.due(m.promise, m.name + ": one more", m.make(x, 1, 2), FULL);
            bench.due(m.promise, m.name + ": tongues", x.told(2), 16);
            x.undo();
            bench.due(m.promise, m.name + ": a place is free", m.make(x, 1, 2), 15);
            bench.stays(m.promise, m.name + ": one more", MadeEdges::sixteen,
                    y -> m.make(y, 1, 2), FULL);
        }
    }

    private static void madeOfLargeOnes() {
        for (Maker m : MAKERS) {
            bench.stays(m.promise, m.name + ": a is large", MadeEdges::largeAndSmall,
                    x -> m.make(x, 0, 1), LARGE);
            if (m.ofTwo) {
                bench.stays(m.promise, m.name + ": b is large", MadeEdges::largeAndSmall,
                        x -> m.make(x, 1, 0), LARGE);
                bench.stays(m.promise, m.name + ": both are", MadeEdges::largeAndSmall,
                        x -> m.make(x, 0, 0), LARGE);
            }
            TreeTongues x = Bench.made(MadeEdges::fifteen);
            bench.due(m.promise, m.name + ": the last place", m.make(x, 0, 0), LARGE);
            bench.due(m.promise, m.name + ": it is still free", m.make(x, 1, 1), 15);
        }
    }

    private static void theFirstThatFits() {
        for (Maker m : MAKERS) {
            bench.stays(m.promise, m.name + ": BAD a and FULL", MadeEdges::sixteen,
                    x -> m.make(x, 16, 1), BAD);
            bench.stays(m.promise, m.name + ": FULL and LARGE", MadeEdges::sixteen,
                    x -> m.make(x, 0, 1), FULL);
            if (m.ofTwo) {
                bench.stays(m.promise, m.name + ": BAD b and FULL", MadeEdges::sixteen,
                        x -> m.make(x, 1, -1), BAD);
                bench.stays(m.promise, m.name + ": BAD a and LARGE b", MadeEdges::largeAndSmall,
                        x -> m.make(x, 3, 0), BAD);
                bench.stays(m.promise, m.name + ": LARGE a and BAD b", MadeEdges::largeAndSmall,
                        x -> m.make(x, 0, 3), BAD);
                bench.stays(m.promise, m.name + ": BAD, FULL and LARGE", MadeEdges::sixteen,
                        x -> m.make(x, 0, 16), BAD);
                bench.stays(m.promise, m.name + ": FULL and LARGE b", MadeEdges::sixteen,
                        x -> m.make(x, 1, 0), FULL);
            }
        }
        for (Maker m : WRONG_MAKERS) {
            bench.stays(m.promise, m.name + ": BAD and FULL", MadeEdges::sixteen,
                    x -> m.make(x, 1, 2), BAD);
            bench.stays(m.promise, m.name + ": BAD and LARGE", MadeEdges::largeAndSmall,
                    x -> m.make(x, 0, 0), BAD);
            bench.stays(m.promise, m.name + ": BAD, FULL and LARGE", MadeEdges::sixteen,
                    x -> m.make(x, 0, 0), BAD);
        }
    }

    /** FULL is ahead also where it is what comes that would be large. */
    private static void whatComesIsFull() {
        Consumer<TreeTongues> chains = x -> {
            Bench.signs(x, 0, 1);
            Bench.loop(x, 1, 3);
            Bench.loop(x, 1, 4);
            Bench.chain(x, 1, 3);
        };
        Consumer<TreeTongues> fullOfChains = x -> {
            chains.accept(x);
            for (int t = 3; t < 16; t++) {
                x.tongue(1);
            }
        };
        for (int way = 0; way < 4; way++) {
            int w = way;
            bench.stays(10, "what comes is large", chains, x -> x.of(w, 0, 1), LARGE);
            bench.stays(10, "FULL ahead of it", fullOfChains, x -> x.of(w, 0, 1), FULL);
        }
        bench.stays(16, "what comes is large", chains, x -> x.grafted(2, 0, 2), LARGE);
        bench.stays(16, "FULL ahead of it", fullOfChains, x -> x.grafted(2, 0, 2), FULL);
        Consumer<TreeTongues> loops = x -> {
            Bench.signs(x, 0, 0, 1);
            twoLoops(x);
        };
        Consumer<TreeTongues> fullOfLoops = x -> {
            loops.accept(x);
            for (int t = 1; t < 16; t++) {
                x.tongue(1);
            }
        };
        bench.stays(12, "what comes is large", loops, x -> x.renamed(0, 2 << 6), LARGE);
        bench.stays(12, "FULL ahead of it", fullOfLoops, x -> x.renamed(0, 2 << 6), FULL);
        bench.stays(12, "BAD ahead of it", loops, x -> x.renamed(0, 2 << 6 | 2 << 3), BAD);
        bench.stays(10, "BAD ahead of it", chains, x -> x.of(4, 0, 1), BAD);
        bench.stays(16, "BAD ahead of it", chains, x -> x.grafted(2, 1, 2), BAD);
    }

    private static void madeOnesAreNotTold() {
        for (Maker m : MAKERS) {
            Consumer<TreeTongues> setup = x -> {
                largeAndSmall(x);
                m.make(x, 1, 2);
            };
            bench.stays(m.promise, m.name + ": no rule", setup, x -> x.rule(3, 0, 0, 0, 0), NOT);
            bench.stays(m.promise, m.name + ": no last", setup, x -> x.last(3, 0, true), NOT);
            bench.stays(m.promise, m.name + ": no last", setup, x -> x.last(3, 0, false), NOT);
        }
    }

    /** What is made must be the same whether its tongues are changed afterwards or not. */
    private static void toldLaterChangesNothing() {
        for (Maker m : MAKERS) {
            TreeTongues changed = Bench.made(MadeEdges::largeAndSmall);
            TreeTongues kept = Bench.made(MadeEdges::largeAndSmall);
            int t = m.make(changed, 1, 2);
            m.make(kept, 1, 2);
            changed.rule(1, 1, 0, 0, 0);
            changed.rule(2, 1, 0, 0, 0);
            changed.rule(2, 2, 0, 0, 0);
            bench.due(m.promise, m.name + ": classes", changed.classes(t), kept.classes(t));
            for (int n = 1; n <= 12; n++) {
                bench.due(m.promise, m.name + ": size " + n, changed.count(t, n),
                        kept.count(t, n));
            }
            changed.last(1, 0, false);
            changed.last(2, 0, false);
            for (int n = 1; n <= 12; n++) {
                bench.due(m.promise, m.name + ": size " + n + ", later", changed.count(t, n),
                        kept.count(t, n));
            }
            bench.due(m.promise, m.name + ": they are changed", changed.least(1), NONE);
        }
    }

    // ---- six classes and seven

    /** Leaf 0 begins a loop of two, leaf 1 one of three: five classes. */
    private static int twoLoops(TreeTongues x) {
        int t = x.tongue(5);
        x.rule(t, 0, 0, 0, 0);
        x.rule(t, 2, 0, 0, 1);
        x.rule(t, 2, 1, 0, 0);
        x.rule(t, 1, 0, 0, 2);
        x.rule(t, 2, 2, 0, 3);
        x.rule(t, 2, 3, 0, 4);
        x.rule(t, 2, 4, 0, 2);
        x.last(t, 0, true);
        x.last(t, 2, true);
        return t;
    }

    /** Both leaves are in one loop of five, at two places: five classes. */
    private static int oneLoop(TreeTongues x) {
        int t = x.tongue(5);
        x.rule(t, 0, 0, 0, 0);
        x.rule(t, 1, 0, 0, 2);
        for (int i = 0; i < 5; i++) {
            x.rule(t, 2, i, 0, (i + 1) % 5);
        }
        x.last(t, 0, true);
        return t;
    }

    private static void sixClassesAndSeven() {
        TreeTongues x = Bench.withSigns(0, 1);
        int threes = Bench.loop(x, 1, 3);
        int twos = Bench.loop(x, 1, 2);
        int even = Bench.evenButNone(x, 1);
        int notThrees = x.not(threes);
        int notEven = x.not(even);
        for (int way = 0; way < 4; way++) {
            bench.due(10, "six classes, way " + way, x.classes(x.of(way, twos, threes)), 6);
        }
        bench.due(10, "tongues", x.told(2), 9);
        bench.due(10, "seven classes, either", x.of(0, notEven, notThrees), LARGE);
        bench.due(10, "seven classes, both", x.of(1, even, threes), LARGE);
        bench.due(10, "seven classes, less", x.of(2, even, notThrees), LARGE);
        bench.due(10, "seven classes, apart", x.of(3, even, threes), LARGE);
        bench.due(10, "none came", x.told(2), 9);

        TreeTongues y = Bench.withSigns(0, 0, 1);
        int one = oneLoop(y);
        int two = twoLoops(y);
        bench.due(18, "one loop", y.classes(one), 5);
        bench.due(18, "two loops", y.classes(two), 5);
        bench.due(12, "six classes", y.classes(y.renamed(one, 2 << 6)), 6);
        bench.due(12, "seven classes", y.renamed(two, 2 << 6), LARGE);
        bench.due(12, "five classes: no leaf is lost", y.classes(y.renamed(two, 1 | 2 << 6)), 5);
        bench.due(12, "seven classes came not", y.told(2), 4);

        TreeTongues z = Bench.withSigns(0, 1);
        int[] chains = {Bench.chain(z, 1, 0), Bench.chain(z, 1, 1), Bench.chain(z, 1, 2),
            Bench.chain(z, 1, 3), Bench.chain(z, 1, 4)};
        for (int i = 0; i <= 4; i++) {
            for (int j = 0; j <= 4; j++) {
                int g = z.grafted(chains[i], 0, chains[j]);
                if (i + j > 4) {
                    bench.due(16, i + " and " + j + " steps", g, LARGE);
                } else {
                    bench.due(16, i + " and " + j + " steps: classes", z.classes(g), i + j + 2);
                    bench.due(16, i + " and " + j + " steps: the tree", z.least(g), i + j + 1);
                    z.undo();
                }
            }
        }
        bench.due(16, "nothing is left", z.told(2), 5);
    }

    /** These never need more classes than they are made of: six make no LARGE. */
    private static void neverMoreClasses() {
        TreeTongues x = Bench.made(Bench::common);
        int six = Bench.sixClasses(x);
        bench.due(18, "six", x.classes(six), 6);
        bench.due(11, "not", x.classes(x.not(six)), 6);
        bench.due(12, "renamed by itself", x.classes(x.renamed(six, SAME)), 6);
        bench.due(13, "back by itself", x.classes(x.back(six, SAME)), 6);
        bench.due(13, "back, all leaves as leaf 1", x.classes(x.back(six, SAME | 1)), 3);
        // its parts: 0, 2 0, 2 2 0, 2 2 2 0, 1 and 2 1, where 1 is as 2 2 0 then
        int p = x.parts(six);
        bench.due(14, "parts", x.classes(p), 5);
        bench.due(14, "how many", x.count(p, 1) + x.count(p, 2) + x.count(p, 3) + x.count(p, 4),
                6);
        bench.due(14, "no more", x.count(p, 5), 0);
        bench.due(15, "within", x.classes(x.within(six)), 5);
        bench.due(10, "with itself", x.classes(x.of(1, six, six)), 6);
        bench.due(16, "its leaf in place of the leaf", x.classes(
                x.grafted(six, 0, Bench.onlyLeaf(x, 0))), 6);
    }

    // ---- maps

    private static int maps(TreeTongues x, boolean isBack, int a, int map) {
        return isBack ? x.back(a, map) : x.renamed(a, map);
    }

    private static void figuresOfMaps() {
        int[][] kinds = {{0, 0, 0, 0, 0, 0}, {0, 1, 2, 0, 1, 2}, {2, 2, 1, 1, 0, 0}};
        for (int[] ranks : kinds) {
            for (int way = 0; way < 2; way++) {
                boolean isBack = way == 1;
                TreeTongues x = Bench.withSigns(ranks);
                int t = Bench.all(x);
                for (int s = 0; s < 6; s++) {
                    for (int to = 0; to < 8; to++) {
                        int map = identity(6) & ~(7 << 3 * s) | to << 3 * s;
                        boolean isGood = to < 6 && ranks[to] == ranks[s];
                        int got = maps(x, isBack, t, map);
                        bench.due(12 + way, "sign " + s + " to " + to, got, isGood ? 1 : BAD);
                        if (isGood) {
                            x.undo();
                        }
                    }
                }
            }
        }
        TreeTongues x = Bench.withSigns(0, 0, 0, 0, 0, 0);
        int t = Bench.onlyLeaf(x, 5);
        bench.due(12, "the least map", x.renamed(t, 0), 1);
        bench.due(12, "all come to sign 0", x.least(1) * 10 + x.at(0), 10);
        bench.due(12, "the greatest map", x.renamed(t, 0555555), 2);
        bench.due(12, "it stays", x.unlike(t, 2), NONE);
        bench.due(13, "the greatest map", x.back(t, 0555555), 3);
        bench.due(13, "all come to sign 5", x.count(3, 1), 6);
        bench.due(13, "the least map", x.back(t, 0), 4);
        bench.due(13, "none comes to sign 5", x.count(4, 1), 0);
        bench.due(12, "one more in the lowest figure", x.renamed(t, 0555556), BAD);
        bench.due(12, "one more in the highest figure", x.renamed(t, 0655555), BAD);
        bench.due(13, "one more in the lowest figure", x.back(t, 0555556), BAD);
        bench.due(13, "one more in the highest figure", x.back(t, 0655555), BAD);
    }

    private static int identity(int signs) {
        int map = 0;
        for (int s = 0; s < signs; s++) {
            map |= s << 3 * s;
        }
        return map;
    }

    /** An int has eleven figures by 8, the eleventh of which is 0 or 1. */
    private static void figuresForNoSign() {
        for (int many = 1; many <= 6; many++) {
            int[] ranks = new int[many];
            for (int way = 0; way < 2; way++) {
                boolean isBack = way == 1;
                TreeTongues x = Bench.withSigns(ranks);
                int t = Bench.onlyLeaf(x, 0);
                bench.due(12 + way, many + " signs", maps(x, isBack, t, identity(many)), 1);
                for (int figure = many; figure <= 10; figure++) {
                    for (int to = 1; to <= (figure == 10 ? 1 : 7); to++) {
                        bench.due(12 + way, many + " signs, figure " + figure,
                                maps(x, isBack, t, identity(many) | to << 3 * figure), BAD);
                    }
                }
                int[] odd = {Bench.HIGHEST, Bench.LOWEST, Bench.LOWEST | identity(many), -1, -8,
                    -identity(many) - 1};
                for (int map : odd) {
                    bench.due(12 + way, many + " signs, map " + map, maps(x, isBack, t, map), BAD);
                }
                bench.due(12 + way, "none came", x.told(2), 2);
            }
        }
    }

    private static void fewSigns() {
        TreeTongues x = Bench.withSigns(0);
        int t = Bench.onlyLeaf(x, 0);
        bench.due(12, "one sign, map 0", x.renamed(t, 0), 1);
        bench.due(13, "one sign, map 0", x.back(t, 0), 2);
        for (int map : new int[] {1, 7, 8, -1}) {
            bench.due(12, "one sign, map " + map, x.renamed(t, map), BAD);
            bench.due(13, "one sign, map " + map, x.back(t, map), BAD);
        }
        TreeTongues y = Bench.withSigns(1, 2);
        y.tongue(1);
        bench.due(12, "two signs, themselves", y.renamed(0, 8), 1);
        bench.due(12, "two signs, the other way", y.renamed(0, 1), BAD);
        bench.due(13, "two signs, both to the first", y.back(0, 0), BAD);
    }

    // ---- what is grafted, and what comes of nothing

    private static void leavesToGraftOn() {
        int[] ranks = {2, 0, 1, 0, 2, 0};
        for (int s = 0; s < 6; s++) {
            TreeTongues x = Bench.withSigns(ranks);
            int t = Bench.onlyLeaf(x, 1);
            bench.due(16, "sign " + s, x.grafted(t, s, t), ranks[s] == 0 ? 1 : BAD);
        }
        TreeTongues x = Bench.withSigns(ranks);
        int t = Bench.onlyLeaf(x, 5);
        bench.due(16, "one too far", x.grafted(t, 6, t), BAD);
        bench.due(16, "the last sign", x.grafted(t, 5, t), 1);
        bench.due(16, "itself comes", x.unlike(t, 1), NONE);
        bench.due(16, "another leaf", x.grafted(t, 3, t), 2);
        bench.due(16, "it stays", x.unlike(t, 2), NONE);
    }

    /** The tongue of no trees and that of all trees, both ways round. */
    private static void nothingToMakeOf() {
        TreeTongues x = Bench.made(Bench::common);
        int none = x.tongue(1);
        int all = Bench.all(x);
        int[] eitherOfThem = {1, 0, 0, 1};
        for (int way = 0; way < 4; way++) {
            dueAllOrNone(10, "none with none", x, x.of(way, none, none), 0);
            dueAllOrNone(10, "none with all", x, x.of(way, none, all), eitherOfThem[way]);
            dueAllOrNone(10, "all with none", x, x.of(way, all, none), way == 1 ? 0 : 1);
            dueAllOrNone(10, "all with all", x, x.of(way, all, all), way < 2 ? 1 : 0);
        }
        dueAllOrNone(11, "not none", x, x.not(none), 1);
        dueAllOrNone(11, "not all", x, x.not(all), 0);
        dueAllOrNone(12, "none", x, x.renamed(none, SAME), 0);
        dueAllOrNone(12, "all", x, x.renamed(all, SAME), 1);
        dueAllOrNone(13, "none", x, x.back(none, SAME | 1), 0);
        dueAllOrNone(13, "all", x, x.back(all, SAME | 1), 1);
        dueAllOrNone(14, "none", x, x.parts(none), 0);
        dueAllOrNone(14, "all", x, x.parts(all), 1);
        dueAllOrNone(15, "none", x, x.within(none), 0);
        dueAllOrNone(15, "all", x, x.within(all), 1);
        dueAllOrNone(16, "none in none", x, x.grafted(none, 0, none), 0);
        dueAllOrNone(16, "all in none", x, x.grafted(none, 0, all), 0);
        dueAllOrNone(16, "all in all", x, x.grafted(all, 0, all), 1);
        int rest = x.grafted(all, 0, none);
        bench.due(16, "none in all: those without the leaf", x.classes(rest), 2);
        Bench.setRow(x, 3, 1, 1);
        bench.due(16, "without the leaf", x.has(rest), 1);
        Bench.setRow(x, 3, 1, 0);
        bench.due(16, "with the leaf", x.has(rest), 0);
    }

    private static void dueAllOrNone(int promise, String what, TreeTongues x, int t, int isAll) {
        bench.due(promise, what + ": number", t, 2);
        bench.due(promise, what + ": one class", x.classes(t), 1);
        bench.due(promise, what + ": all", x.isLast(t, 0), isAll);
        x.undo();
    }
}
