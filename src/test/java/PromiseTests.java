/** For each promise of the document: ordinary inputs, the edges that it names, and wrong inputs. */
public final class PromiseTests {
    private static final int NONE = -1, BAD = -2, NOT = -3, FULL = -4, LARGE = -5;
    private static final long CAP = 1000000000000000000L;
    private static int wrong = 0;
    private static int asked = 0;

    private static void due(int promise, String what, long got, long want) {
        asked++;
        if (got != want) {
            wrong++;
            System.out.println("promise " + promise + ": " + what + " answered " + got
                    + ", due is " + want);
        }
    }

    private static void dueRow(int promise, String what, TreeTongues x, int... want) {
        due(promise, what + ": numbers", x.told(1), want.length);
        for (int i = 0; i < want.length; i++) {
            due(promise, what + ": at " + i, x.at(i), want[i]);
        }
    }

    private static void setRow(TreeTongues x, int... numbers) {
        x.drop();
        for (int n : numbers) {
            x.put(n);
        }
    }

    private static TreeTongues withSigns(int... ranks) {
        TreeTongues x = new TreeTongues();
        for (int r : ranks) {
            x.sign(r);
        }
        return x;
    }

    /** Signs 0 and 1 of rank 0, 2 of rank 1, 3 of rank 2. */
    private static TreeTongues common() {
        return withSigns(0, 0, 1, 2);
    }

    /** The tongue of all trees over the signs of common() that have no sign 1. */
    private static int withoutOne(TreeTongues x) {
        int t = x.tongue(1);
        x.rule(t, 0, 0, 0, 0);
        x.rule(t, 2, 0, 0, 0);
        x.rule(t, 3, 0, 0, 0);
        x.last(t, 0, true);
        return t;
    }

    /** The tongue of one leaf alone. */
    private static int onlyLeaf(TreeTongues x, int leaf) {
        int t = x.tongue(1);
        x.rule(t, leaf, 0, 0, 0);
        x.last(t, 0, true);
        return t;
    }

    /** The chain of so many steps of rank 1 upon leaf 0, alone; the signs are 0 and step. */
    private static int chain(TreeTongues x, int step, int length) {
        int t = x.tongue(length + 1);
        x.rule(t, 0, 0, 0, 0);
        for (int i = 0; i < length; i++) {
            x.rule(t, step, i, 0, i + 1);
        }
        x.last(t, length, true);
        return t;
    }

    /** A told tongue that is large: five states, each set of which the leaves and steps reach. */
    private static int large(TreeTongues x) {
        int t = x.tongue(5);
        x.rule(t, 0, 0, 0, 0);
        for (int i = 0; i < 4; i++) {
            x.rule(t, 2, i, 0, i + 1);
        }
        x.rule(t, 2, 0, 0, 0);
        x.rule(t, 3, 0, 0, 0);
        x.rule(t, 3, 0, 4, 4);
        x.rule(t, 3, 4, 0, 4);
        x.last(t, 4, true);
        return t;
    }

    public static void main(String[] args) {
        aNewObject();
        signsAndRows();
        toldTongues();
        rules();
        lastStates();
        ways();
        negation();
        renaming();
        renamingBack();
        partsOf();
        withinThem();
        grafting();
        undoing();
        leastMachines();
        longestFirstTree();
        askingOneTree();
        leastAndUnlike();
        ending();
        counting();
        treesByNumber();
        places();
        telling();
        largeOnes();
        fullTongues();
        snapshots();
        System.out.println(asked + " answers asked, " + wrong + " wrong");
        if (wrong != 0) {
            System.exit(1);
        }
    }

    private static void aNewObject() {
        TreeTongues x = new TreeTongues();
        due(1, "signs", x.told(0), 0);
        due(1, "numbers", x.told(1), 0);
        due(1, "tongues", x.told(2), 0);
        due(1, "is a tree", x.told(3), 0);
        due(1, "rank(0)", x.rank(0), BAD);
        due(1, "at(0)", x.at(0), BAD);
        due(1, "classes(0)", x.classes(0), BAD);
        due(1, "undo()", x.undo(), NOT);
        TreeTongues y = new TreeTongues();
        x.sign(0);
        x.put(0);
        x.tongue(1);
        due(1, "another object's signs", y.told(0), 0);
        due(1, "another object's numbers", y.told(1), 0);
        due(1, "another object's tongues", y.told(2), 0);
        due(1, "NONE", TreeTongues.NONE, NONE);
        due(1, "BAD", TreeTongues.BAD, BAD);
        due(1, "NOT", TreeTongues.NOT, NOT);
        due(1, "FULL", TreeTongues.FULL, FULL);
        due(1, "LARGE", TreeTongues.LARGE, LARGE);
    }

    private static void signsAndRows() {
        TreeTongues x = new TreeTongues();
        int[] ranks = {2, 0, 1, 1, 0, 2};
        due(2, "sign(-1)", x.sign(-1), BAD);
        due(2, "sign(3)", x.sign(3), BAD);
        for (int i = 0; i < 6; i++) {
            due(3, "rank ahead", x.rank(i), BAD);
            due(2, "sign " + i, x.sign(ranks[i]), i);
            due(3, "rank behind", x.rank(i), ranks[i]);
        }
        due(2, "a seventh sign", x.sign(0), FULL);
        due(2, "BAD ahead of FULL", x.sign(3), BAD);
        due(3, "rank(-1)", x.rank(-1), BAD);
        due(3, "rank(6)", x.rank(6), BAD);
        due(2, "signs", x.told(0), 6);
        x.tongue(1);
        due(2, "NOT ahead of FULL", x.sign(0), NOT);
        due(2, "BAD ahead of NOT", x.sign(-2), BAD);
        x.undo();
        due(2, "the tongue is gone", x.sign(0), FULL);
        TreeTongues y = withSigns(0);
        y.tongue(1);
        due(2, "a tongue is there", y.sign(0), NOT);
        y.undo();
        due(2, "no tongue is there", y.sign(2), 1);

        due(4, "put(6)", x.put(6), BAD);
        due(4, "put(-1)", x.put(-1), BAD);
        for (int i = 0; i < 120; i++) {
            due(4, "put", x.put(i % 6), i + 1);
        }
        due(4, "a number too many", x.put(0), FULL);
        due(4, "BAD ahead of FULL", x.put(6), BAD);
        for (int i = 0; i < 120; i++) {
            due(6, "at " + i, x.at(i), i % 6);
        }
        due(6, "at(120)", x.at(120), BAD);
        due(30, "a full row that is no tree", x.told(3), 0);
        due(6, "at(-1)", x.at(-1), BAD);
        due(5, "drop()", x.drop(), 120);
        due(5, "drop() again", x.drop(), 0);
        due(6, "at(0) of the empty row", x.at(0), BAD);
        due(4, "put behind drop", x.put(5), 1);
        due(6, "at(0)", x.at(0), 5);
        due(6, "at(1)", x.at(1), BAD);
    }

    private static void toldTongues() {
        TreeTongues x = common();
        due(7, "tongue(0)", x.tongue(0), BAD);
        due(7, "tongue(-1)", x.tongue(-1), BAD);
        due(7, "tongue(6)", x.tongue(6), BAD);
        for (int i = 0; i < 16; i++) {
            due(7, "tongue", x.tongue(1 + i % 5), i);
        }
        due(7, "a tongue too many", x.tongue(1), FULL);
        due(7, "BAD ahead of FULL", x.tongue(6), BAD);
        due(7, "tongues", x.told(2), 16);
        due(7, "state 4 of five", x.last(4, 4, true), 0);
        due(7, "state 1 of one", x.last(5, 1, true), BAD);
        due(7, "nothing is in it", x.least(0), NONE);
        due(7, "one class", x.classes(0), 1);
        x.undo();
        due(7, "a place is free", x.tongue(2), 15);
        x.rule(15, 0, 0, 0, 1);
        x.last(15, 1, true);
        due(7, "it has a tree", x.least(15), 1);
        x.undo();
        x.tongue(2);
        due(7, "a new one has no rules", x.rule(15, 0, 0, 0, 1), 1);
        due(7, "a new one has no final states", x.least(15), NONE);
        due(7, "nor this", x.last(15, 1, true), 0);
    }

    private static void rules() {
        TreeTongues x = common();
        int t = x.tongue(3);
        due(8, "no such tongue", x.rule(1, 0, 0, 0, 0), BAD);
        due(8, "no such tongue", x.rule(-1, 0, 0, 0, 0), BAD);
        due(8, "no such sign", x.rule(t, 4, 0, 0, 0), BAD);
        due(8, "no such sign", x.rule(t, -1, 0, 0, 0), BAD);
        due(8, "no such state q", x.rule(t, 0, 0, 0, 3), BAD);
        due(8, "no such state q", x.rule(t, 0, 0, 0, -1), BAD);
        due(8, "no such first state", x.rule(t, 2, 3, 0, 0), BAD);
        due(8, "no such first state", x.rule(t, 3, -1, 0, 0), BAD);
        due(8, "no such second state", x.rule(t, 3, 0, 3, 0), BAD);
        due(8, "no such second state", x.rule(t, 3, 0, -1, 0), BAD);
        due(8, "rank 0: no part is looked at", x.rule(t, 0, -7, 99, 0), 1);
        due(8, "rank 1: the second is not", x.rule(t, 2, 0, 99, 1), 2);
        due(8, "rank 2", x.rule(t, 3, 1, 0, 2), 3);
        due(8, "once more", x.rule(t, 3, 1, 0, 2), 4);
        x.last(t, 2, true);
        due(8, "the first tree", x.least(t), 4);
        dueRow(8, "the first tree", x, 3, 2, 0, 0);
        due(8, "no other order of parts", x.count(t, 4), 1);
        for (int i = 5; i <= 40; i++) {
            due(8, "rule " + i, x.rule(t, 1, 0, 0, 0), i);
        }
        due(8, "a rule too many", x.rule(t, 1, 0, 0, 0), FULL);
        due(8, "BAD ahead of FULL", x.rule(t, 1, 0, 0, 3), BAD);
        due(8, "the refused one is not there", x.count(t, 4), 4);
        int n = x.not(t);
        due(8, "not told", x.rule(n, 0, 0, 0, 0), NOT);
        due(8, "BAD sign ahead of NOT", x.rule(n, 4, 0, 0, 0), BAD);
        due(8, "NOT ahead of BAD states", x.rule(n, 0, 0, 0, 77), NOT);

        // several states at once: a leaf of states 0 and 1, and a pair that wants one of each
        TreeTongues y = withSigns(0, 2);
        y.tongue(3);
        y.rule(0, 0, 0, 0, 0);
        y.rule(0, 0, 0, 0, 1);
        y.rule(0, 1, 0, 1, 2);
        y.last(0, 2, true);
        setRow(y, 1, 0, 0);
        due(8, "of several states", y.has(0), 1);
        setRow(y, 0);
        due(8, "of no final state", y.has(0), 0);
    }

    private static void lastStates() {
        TreeTongues x = common();
        int t = x.tongue(2);
        x.rule(t, 0, 0, 0, 0);
        x.rule(t, 1, 0, 0, 1);
        due(9, "no such tongue", x.last(1, 0, true), BAD);
        due(9, "no such tongue", x.last(-1, 0, true), BAD);
        due(9, "no such state", x.last(t, 2, true), BAD);
        due(9, "no such state", x.last(t, -1, false), BAD);
        due(9, "it was not", x.last(t, 0, true), 0);
        due(9, "it was", x.last(t, 0, true), 1);
        due(9, "the other was not", x.last(t, 1, false), 0);
        due(9, "one tree", x.count(t, 1), 1);
        due(9, "it was", x.last(t, 0, false), 1);
        due(9, "it was not", x.last(t, 0, false), 0);
        due(9, "no tree", x.count(t, 1), 0);
        x.last(t, 0, true);
        x.last(t, 1, true);
        due(9, "two trees", x.count(t, 1), 2);
        int p = x.parts(t);
        due(9, "not told", x.last(p, 0, true), NOT);
        due(9, "NOT ahead of BAD state", x.last(p, 9, true), NOT);
    }

    private static void ways() {
        TreeTongues x = withSigns(0, 0, 0, 0);
        int a = x.tongue(1);
        x.rule(a, 0, 0, 0, 0);
        x.rule(a, 1, 0, 0, 0);
        x.last(a, 0, true);
        int b = x.tongue(1);
        x.rule(b, 1, 0, 0, 0);
        x.rule(b, 2, 0, 0, 0);
        x.last(b, 0, true);
        int[][] in = {{1, 1, 1, 0}, {0, 1, 0, 0}, {1, 0, 0, 0}, {1, 0, 1, 0}};
        for (int way = 0; way < 4; way++) {
            int t = x.of(way, a, b);
            due(10, "number", t, 2 + way);
            for (int s = 0; s < 4; s++) {
                setRow(x, s);
                due(10, "way " + way + " leaf " + s, x.has(t), in[way][s]);
            }
        }
        due(10, "way 4", x.of(4, a, b), BAD);
        due(10, "way -1", x.of(-1, a, b), BAD);
        due(10, "no a", x.of(0, 6, b), BAD);
        due(10, "no b", x.of(0, a, -1), BAD);
        due(10, "less the other way", x.of(2, b, a), 6);
        setRow(x, 2);
        due(10, "in b, not in a", x.has(6), 1);
        due(10, "with itself", x.of(3, a, a), 7);
        due(10, "nothing is apart", x.least(7), NONE);
        due(10, "no tree: one class", x.classes(7), 1);
        due(10, "tongues", x.told(2), 8);
    }

    private static void negation() {
        TreeTongues x = common();
        int a = withoutOne(x);
        int n = x.not(a);
        due(11, "number", n, 1);
        due(11, "classes", x.classes(n), 2);
        due(11, "first", x.least(n), 1);
        dueRow(11, "first", x, 1);
        for (int size = 1; size <= 12; size++) {
            int all = x.of(0, a, n);
            due(11, "all of size " + size, x.count(all, size), x.count(a, size) + x.count(n, size));
            x.undo();
        }
        int m = x.not(n);
        due(11, "not not", x.unlike(a, m), NONE);
        due(11, "not(3)", x.not(3), BAD);
        due(11, "not(-1)", x.not(-1), BAD);
    }

    private static void renaming() {
        TreeTongues x = common();
        int a = onlyLeaf(x, 0);
        int same = 0 | 1 << 3 | 2 << 6 | 3 << 9;
        int toOne = 1 | 1 << 3 | 2 << 6 | 3 << 9;
        int swapped = 1 | 0 << 3 | 2 << 6 | 3 << 9;
        int t = x.renamed(a, same);
        due(12, "number", t, 1);
        due(12, "the same", x.unlike(a, t), NONE);
        int u = x.renamed(a, toOne);
        x.least(u);
        dueRow(12, "leaf 0 becomes leaf 1", x, 1);
        due(12, "and that alone", x.count(u, 1), 1);
        int w = x.renamed(withoutOne(x), swapped);
        setRow(x, 3, 1, 2, 1);
        due(12, "swapped", x.has(w), 1);
        setRow(x, 3, 1, 2, 0);
        due(12, "none with sign 0", x.has(w), 0);
        due(12, "no such tongue", x.renamed(9, same), BAD);
        due(12, "a sign of another rank", x.renamed(a, 0 | 2 << 3 | 2 << 6 | 3 << 9), BAD);
        due(12, "no sign 4", x.renamed(a, 4 | 1 << 3 | 2 << 6 | 3 << 9), BAD);
        due(12, "a figure for no sign", x.renamed(a, same | 1 << 12), BAD);
        due(12, "a far figure", x.renamed(a, same | 1 << 30), BAD);
        due(12, "below 0", x.renamed(a, -1), BAD);
        due(12, "below 0", x.renamed(a, same | 1 << 31), BAD);
        due(12, "figures 0 for signs of other ranks", x.renamed(a, 0), BAD);
        due(12, "nothing was made", x.told(2), 5);

        // two signs become one: what comes may come of either
        TreeTongues y = withSigns(0, 1, 1);
        y.tongue(3);
        y.rule(0, 0, 0, 0, 0);
        y.rule(0, 1, 0, 0, 1);
        y.rule(0, 2, 1, 0, 2);
        y.last(0, 2, true);
        y.renamed(0, 0 | 1 << 3 | 1 << 6);
        due(12, "1 0 and then 2 on it", y.least(1), 3);
        dueRow(12, "both as sign 1", y, 1, 1, 0);
        due(12, "one tree of size 3", y.count(1, 3), 1);
        due(12, "all with sign 2 are alike", y.classes(1), 4);
    }

    private static void renamingBack() {
        TreeTongues x = common();
        int a = onlyLeaf(x, 1);
        int toOne = 1 | 1 << 3 | 2 << 6 | 3 << 9;
        int toZero = 0 | 0 << 3 | 2 << 6 | 3 << 9;
        int t = x.back(a, toOne);
        due(13, "number", t, 1);
        due(13, "either leaf becomes leaf 1", x.count(t, 1), 2);
        int u = x.back(a, toZero);
        due(13, "none becomes leaf 1", x.least(u), NONE);
        due(13, "one class", x.classes(u), 1);
        int w = x.back(withoutOne(x), toZero);
        setRow(x, 3, 1, 0);
        due(13, "with any leaves", x.has(w), 1);
        due(13, "all trees: one class", x.classes(w), 1);
        due(13, "no such tongue", x.back(5, toOne), BAD);
        due(13, "a sign of another rank", x.back(a, 1 | 1 << 3 | 3 << 6 | 3 << 9), BAD);
        due(13, "no sign 5", x.back(a, 5 | 1 << 3 | 2 << 6 | 3 << 9), BAD);
        due(13, "a figure for no sign", x.back(a, toOne | 7 << 12), BAD);
        due(13, "below 0", x.back(a, -8), BAD);
        due(13, "nothing was made", x.told(2), 5);
    }

    private static void partsOf() {
        TreeTongues x = common();
        int t = x.tongue(4);
        x.rule(t, 0, 0, 0, 0);
        x.rule(t, 1, 0, 0, 1);
        x.rule(t, 2, 0, 0, 2);
        x.rule(t, 3, 2, 1, 3);
        x.last(t, 3, true);
        int p = x.parts(t);
        due(14, "number", p, 1);
        int[][] in = {{0}, {1}, {2, 0}, {3, 2, 0, 1}};
        int[][] out = {{2, 1}, {3, 2, 0, 0}, {3, 0, 1}, {2, 2, 0}, {2, 3, 2, 0, 1}};
        for (int[] row : in) {
            setRow(x, row);
            due(14, "a part", x.has(p), 1);
        }
        for (int[] row : out) {
            setRow(x, row);
            due(14, "no part", x.has(p), 0);
        }
        due(14, "two leaves", x.count(p, 1), 2);
        due(14, "one of two", x.count(p, 2), 1);
        due(14, "none of three", x.count(p, 3), 0);
        due(14, "itself", x.count(p, 4), 1);
        due(14, "there is an end", x.ends(p), 1);
        due(14, "parts of parts", x.unlike(p, x.parts(p)), NONE);
        due(14, "no such tongue", x.parts(3), BAD);
        due(14, "no such tongue", x.parts(-1), BAD);
        int none = x.tongue(1);
        due(14, "of nothing nothing", x.least(x.parts(none)), NONE);
    }

    private static void withinThem() {
        TreeTongues x = common();
        int a = onlyLeaf(x, 1);
        int w = x.within(a);
        due(15, "number", w, 1);
        due(15, "has it or not", x.classes(w), 2);
        setRow(x, 1);
        due(15, "is one", x.has(w), 1);
        setRow(x, 3, 0, 2, 1);
        due(15, "has one", x.has(w), 1);
        setRow(x, 3, 1, 0);
        due(15, "has one first", x.has(w), 1);
        setRow(x, 3, 0, 2, 0);
        due(15, "has none", x.has(w), 0);
        due(15, "just those without are not", x.unlike(x.not(withoutOne(x)), w), NONE);
        due(15, "again", x.unlike(w, x.within(w)), NONE);
        due(15, "no such tongue", x.within(7), BAD);
        due(15, "no such tongue", x.within(-1), BAD);
        due(15, "of nothing nothing", x.least(x.within(x.tongue(2))), NONE);
    }

    private static void grafting() {
        TreeTongues x = common();
        // a: the pair of two leaves 0; b: leaf 1, or sign 2 upon leaf 0
        int a = x.tongue(2);
        x.rule(a, 0, 0, 0, 0);
        x.rule(a, 3, 0, 0, 1);
        x.last(a, 1, true);
        int b = x.tongue(2);
        x.rule(b, 0, 0, 0, 0);
        x.rule(b, 1, 0, 0, 1);
        x.rule(b, 2, 0, 0, 1);
        x.last(b, 1, true);
        int g = x.grafted(a, 0, b);
        due(16, "number", g, 2);
        due(16, "leaf 1 twice", x.count(g, 3), 1);
        due(16, "each its own one", x.count(g, 4), 2);
        due(16, "both long", x.count(g, 5), 1);
        due(16, "no more", x.ends(g), 1);
        setRow(x, 3, 2, 0, 1);
        due(16, "what is put keeps its leaves 0", x.has(g), 1);
        setRow(x, 3, 0, 0);
        due(16, "no leaf stays", x.has(g), 0);
        setRow(x, 3, 0, 1);
        due(16, "not one alone", x.has(g), 0);
        int h = x.grafted(a, 1, b);
        due(16, "no leaf 1 in a: all stays", x.unlike(a, h), NONE);
        int none = x.tongue(1);
        due(16, "nothing to put", x.least(x.grafted(a, 0, none)), NONE);
        due(16, "nothing to put, no leaf to put it", x.unlike(a, x.grafted(a, 1, none)), NONE);
        due(16, "nothing to put it in", x.least(x.grafted(none, 0, a)), NONE);
        int leaf = onlyLeaf(x, 0);
        due(16, "in a leaf", x.unlike(b, x.grafted(leaf, 0, b)), NONE);
        due(16, "the leaf itself", x.unlike(a, x.grafted(a, 0, leaf)), NONE);
        due(16, "a sign of rank 1", x.grafted(a, 2, b), BAD);
        due(16, "a sign of rank 2", x.grafted(a, 3, b), BAD);
        due(16, "no such sign", x.grafted(a, 4, b), BAD);
        due(16, "no such sign", x.grafted(a, -1, b), BAD);
        due(16, "no a", x.grafted(20, 0, b), BAD);
        due(16, "no b", x.grafted(a, 0, -1), BAD);
    }

    private static void undoing() {
        TreeTongues x = common();
        due(17, "there is none", x.undo(), NOT);
        withoutOne(x);
        x.not(0);
        x.within(0);
        due(17, "two left", x.undo(), 2);
        due(17, "the third is gone", x.classes(2), BAD);
        due(17, "the second is there", x.classes(1), 2);
        due(17, "its number comes again", x.tongue(1), 2);
        due(17, "as a told one", x.rule(2, 0, 0, 0, 0), 1);
        due(17, "two left", x.undo(), 2);
        due(17, "one left", x.undo(), 1);
        due(17, "none left", x.undo(), 0);
        due(17, "there is none", x.undo(), NOT);
        due(17, "the row stays", x.put(0), 1);
        x.tongue(1);
        x.undo();
        due(17, "the row stays", x.told(1), 1);
    }

    private static void leastMachines() {
        TreeTongues x = withSigns(0, 2, 0);
        // leaves counted by threes: sign 0 counts one, sign 2 counts two
        int t = x.tongue(3);
        x.rule(t, 0, 0, 0, 1);
        x.rule(t, 2, 0, 0, 2);
        for (int i = 0; i < 3; i++) {
            for (int j = 0; j < 3; j++) {
                x.rule(t, 1, i, j, (i + j) % 3);
            }
        }
        x.last(t, 0, true);
        due(18, "classes", x.classes(t), 3);
        due(18, "no such tongue", x.classes(1), BAD);
        due(18, "no such tongue", x.classes(-1), BAD);
        due(19, "leaf 0", x.go(t, 0, 9, -9), 0);
        due(19, "leaf 2", x.go(t, 2, 9, -9), 1);
        due(19, "one and two", x.go(t, 1, 0, 1), 2);
        due(19, "one and one", x.go(t, 1, 0, 0), 1);
        due(19, "two and two", x.go(t, 1, 1, 1), 0);
        due(19, "none and two", x.go(t, 1, 2, 1), 1);
        due(19, "no such class", x.go(t, 1, 3, 0), BAD);
        due(19, "no such class", x.go(t, 1, 0, 3), BAD);
        due(19, "no such class", x.go(t, 1, -1, 0), BAD);
        due(19, "no such sign", x.go(t, 3, 0, 0), BAD);
        due(19, "no such sign", x.go(t, -1, 0, 0), BAD);
        due(19, "no such tongue", x.go(1, 0, 0, 0), BAD);
        due(20, "class 0", x.isLast(t, 0), 0);
        due(20, "class 2", x.isLast(t, 2), 1);
        due(20, "no such class", x.isLast(t, 3), BAD);
        due(20, "no such class", x.isLast(t, -1), BAD);
        due(20, "no such tongue", x.isLast(1, 0), BAD);
        due(21, "class 0", x.size(t, 0), 1);
        due(21, "class 1", x.size(t, 1), 1);
        due(21, "class 2", x.size(t, 2), 3);
        due(21, "no such class", x.size(t, 3), BAD);
        due(21, "no such class", x.size(t, -1), BAD);
        due(21, "no such tongue", x.size(-1, 0), BAD);

        // the order of first trees is by size, then by the sign's number, then by parts
        TreeTongues y = withSigns(2, 1, 0);
        y.tongue(3);
        y.rule(0, 2, 0, 0, 0);
        y.rule(0, 0, 0, 0, 1);
        y.rule(0, 1, 0, 0, 2);
        y.last(0, 1, true);
        due(18, "leaf, rest by size", y.classes(0), 3);
        due(19, "rank 1 comes first, as it is shorter", y.go(0, 1, 0, 0), 1);
        due(19, "and then the pair", y.go(0, 0, 0, 0), 2);
        due(20, "the pair is in", y.isLast(0, 2), 1);
        due(21, "its size", y.size(0, 2), 3);

        // classes whose first trees double: the fifth has 31 signs
        TreeTongues z = withSigns(0, 2);
        z.tongue(5);
        z.rule(0, 0, 0, 0, 0);
        for (int i = 0; i < 4; i++) {
            z.rule(0, 1, i, i, i + 1);
        }
        for (int q = 0; q < 5; q++) {
            for (int r = 0; r < 5; r++) {
                if (q != r || q == 4) {
                    z.rule(0, 1, q, r, 0);
                }
            }
        }
        z.last(0, 4, true);
        due(18, "five classes", z.classes(0), 5);
        due(21, "31 signs", z.size(0, 4), 31);
        due(24, "31 signs", z.least(0), 31);

        TreeTongues none = withSigns(1, 2);
        none.tongue(2);
        none.rule(0, 0, 0, 0, 1);
        none.rule(0, 1, 0, 1, 1);
        none.last(0, 1, true);
        due(18, "no leaf, no class", none.classes(0), 0);
        due(19, "no class 0", none.go(0, 0, 0, 0), BAD);
        due(20, "no class 0", none.isLast(0, 0), BAD);
        due(21, "no class 0", none.size(0, 0), BAD);
        due(26, "there is an end", none.ends(0), 1);
        due(24, "no tree", none.least(0), NONE);
        due(28, "no tree", none.tree(0, 0), NONE);
        due(27, "no tree", none.count(0, 40), 0);
        due(11, "not, of no classes", none.not(0), 1);
        due(14, "parts, of no classes", none.parts(0), 2);
        due(15, "within, of no classes", none.within(0), 3);
        due(10, "either, of no classes", none.of(0, 0, 1), 4);
        due(12, "renamed, of no classes", none.renamed(0, 8), 5);
        due(13, "back, of no classes", none.back(0, 8), 6);
        due(16, "no leaf to graft on", none.grafted(0, 0, 0), BAD);
        due(25, "all alike", none.unlike(0, 1), NONE);
    }

    /**
     * Trees of levels 0 to 5: two of a level make one of the next. Those of level 5 are of states 3
     * and 4 at once, so that five states tell six classes.
     */
    private static int levels(TreeTongues x, int finalState) {
        int t = x.tongue(5);
        x.rule(t, 0, 0, 0, 0);
        for (int i = 0; i < 5; i++) {
            for (int j = 0; j < 5; j++) {
                int mixed = i > 2 && j > 2 ? 3 : 0;
                x.rule(t, 1, i, j, i == j && i < 4 ? i + 1 : mixed);
            }
        }
        x.rule(t, 1, 4, 4, 4);
        x.last(t, finalState, true);
        return t;
    }

    /** Six classes whose first trees double: no first tree can have more than 63 signs. */
    private static void longestFirstTree() {
        TreeTongues x = withSigns(0, 2);
        int three = levels(x, 3);
        int four = levels(x, 4);
        int both = x.of(1, three, four);
        for (int t = 0; t < 3; t++) {
            due(18, "six classes", x.classes(t), 6);
            for (int c = 0; c < 6; c++) {
                due(21, "class " + c, x.size(t, c), (2 << c) - 1);
            }
        }
        due(24, "level 3", x.least(three), 15);
        due(24, "level 4", x.least(four), 31);
        due(24, "level 5", x.least(both), 63);
        due(24, "its numbers", x.told(1), 63);
        due(24, "two of a level below", x.at(0) + x.at(1) + x.at(32), 3);
        due(22, "its class", x.classOf(both), 5);
        due(23, "is in", x.has(both), 1);
        due(29, "a size above 40", x.place(both), -1);
        due(28, "none of a size of 40 at most", x.tree(both, 0), NONE);
        due(28, "the row stays", x.told(1), 63);
        due(27, "none of size 40", x.count(both, 40), 0);
        due(26, "no end", x.ends(both), 0);
        due(25, "the first that is in one alone", x.unlike(both, three), 15);
    }

    private static void askingOneTree() {
        TreeTongues x = common();
        int t = withoutOne(x);
        due(22, "the row is empty", x.classOf(t), NOT);
        due(23, "the row is empty", x.has(t), NOT);
        due(29, "the row is empty", x.place(t), -1);
        setRow(x, 3, 0);
        due(22, "a part is missing", x.classOf(t), NOT);
        due(23, "a part is missing", x.has(t), NOT);
        setRow(x, 0, 0);
        due(22, "one too many", x.classOf(t), NOT);
        due(23, "one too many", x.has(t), NOT);
        setRow(x, 2);
        due(22, "rank 1 without a part", x.classOf(t), NOT);
        due(22, "BAD ahead of NOT", x.classOf(1), BAD);
        due(23, "BAD ahead of NOT", x.has(-1), BAD);
        setRow(x, 3, 2, 0, 3, 0, 0);
        due(22, "no sign 1", x.classOf(t), 0);
        due(23, "no sign 1", x.has(t), 1);
        setRow(x, 3, 2, 0, 3, 0, 1);
        due(22, "a sign 1", x.classOf(t), 1);
        due(23, "a sign 1", x.has(t), 0);
        due(22, "no such tongue", x.classOf(1), BAD);
        due(23, "no such tongue", x.has(1), BAD);
        x.drop();
        for (int i = 0; i < 120; i++) {
            x.put(3);
        }
        due(22, "a full row that wants parts", x.classOf(t), NOT);
        due(23, "a full row that wants parts", x.has(t), NOT);
        x.drop();
        for (int i = 0; i < 119; i++) {
            x.put(2);
        }
        x.put(1);
        due(22, "a tree as long as the row", x.classOf(t), 1);
        due(23, "a tree as long as the row", x.has(t), 0);
        due(29, "a size above 40", x.place(t), -1);
    }

    private static void leastAndUnlike() {
        TreeTongues x = common();
        int t = x.tongue(3);
        x.rule(t, 1, 0, 0, 0);
        x.rule(t, 2, 0, 0, 1);
        x.rule(t, 3, 1, 0, 2);
        x.rule(t, 3, 0, 1, 2);
        x.last(t, 2, true);
        due(24, "its size", x.least(t), 4);
        dueRow(24, "the first of two", x, 3, 1, 2, 1);
        int none = x.tongue(1);
        due(24, "there is none", x.least(none), NONE);
        dueRow(24, "the row stays", x, 3, 1, 2, 1);
        due(24, "no such tongue", x.least(2), BAD);
        due(24, "no such tongue", x.least(-1), BAD);

        int u = x.tongue(3);
        x.rule(u, 1, 0, 0, 0);
        x.rule(u, 2, 0, 0, 1);
        x.rule(u, 3, 0, 1, 2);
        x.last(u, 2, true);
        due(25, "its size", x.unlike(t, u), 4);
        dueRow(25, "in one alone", x, 3, 2, 1, 1);
        setRow(x, 0);
        due(25, "the other way", x.unlike(u, t), 4);
        dueRow(25, "in one alone", x, 3, 2, 1, 1);
        setRow(x, 0, 0);
        due(25, "the same", x.unlike(u, u), NONE);
        dueRow(25, "the row stays", x, 0, 0);
        due(25, "no a", x.unlike(3, 0), BAD);
        due(25, "no b", x.unlike(0, -1), BAD);
        due(25, "no tongue was made", x.told(2), 3);
    }

    private static void ending() {
        TreeTongues x = common();
        int t = chain(x, 2, 3);
        due(26, "one tree", x.ends(t), 1);
        due(26, "all others", x.ends(x.not(t)), 0);
        due(26, "all with it", x.ends(x.within(t)), 0);
        due(26, "all parts", x.ends(x.parts(t)), 1);
        due(26, "no tree", x.ends(x.tongue(2)), 1);
        due(26, "no such tongue", x.ends(9), BAD);
        due(26, "no such tongue", x.ends(-1), BAD);
        // a loop that leads to no final state makes no more trees
        int u = x.tongue(3);
        x.rule(u, 0, 0, 0, 0);
        x.rule(u, 2, 0, 0, 1);
        x.rule(u, 2, 1, 0, 1);
        x.last(u, 0, true);
        due(26, "a loop aside", x.ends(u), 1);
        x.rule(u, 3, 0, 1, 2);
        due(26, "a loop to no final state", x.ends(u), 1);
        x.last(u, 2, true);
        due(26, "a loop below a final state", x.ends(u), 0);
    }

    private static void counting() {
        TreeTongues x = withSigns(0, 2);
        int t = x.tongue(1);
        x.rule(t, 0, 0, 0, 0);
        x.rule(t, 1, 0, 0, 0);
        x.last(t, 0, true);
        long pairs = 1;
        for (int n = 0; n < 20; n++) {
            due(27, "size " + (2 * n + 1), x.count(t, 2 * n + 1), pairs);
            due(27, "size " + (2 * n + 2), x.count(t, 2 * n + 2), 0);
            pairs = pairs * 2 * (2 * n + 1) / (n + 2);
        }
        due(27, "size 0", x.count(t, 0), -1);
        due(27, "size 41", x.count(t, 41), -1);
        due(27, "size -1", x.count(t, -1), -1);
        due(27, "no such tongue", x.count(1, 1), -1);

        // five signs of rank 1: five times as many trees with each size
        TreeTongues y = withSigns(0, 1, 1, 1, 1, 1);
        y.tongue(1);
        y.rule(0, 0, 0, 0, 0);
        for (int s = 1; s < 6; s++) {
            y.rule(0, s, 0, 0, 0);
        }
        y.last(0, 0, true);
        long power = 1;
        for (int n = 1; n <= 40; n++) {
            due(27, "5 to the " + (n - 1), y.count(0, n), power);
            power = power >= CAP / 5 ? CAP : power * 5;
        }
        due(27, "the last that fits", y.count(0, 26), 298023223876953125L);
        due(27, "the first that does not", y.count(0, 27), CAP);
    }

    private static void treesByNumber() {
        TreeTongues x = common();
        int t = withoutOne(x);
        // in order: 0; 2 0; 2 2 0; 3 0 0; 2 2 2 0; 2 3 0 0; 3 0 2 0; 3 2 0 0
        int[][] rows = {{0}, {2, 0}, {2, 2, 0}, {3, 0, 0}, {2, 2, 2, 0}, {2, 3, 0, 0},
            {3, 0, 2, 0}, {3, 2, 0, 0}};
        for (int k = 0; k < rows.length; k++) {
            due(28, "tree " + k, x.tree(t, k), rows[k].length);
            dueRow(28, "tree " + k, x, rows[k]);
            due(29, "place " + k, x.place(t), k);
        }
        due(28, "below 0", x.tree(t, -1), BAD);
        due(28, "above the bound", x.tree(t, CAP), BAD);
        due(28, "far above", x.tree(t, Long.MAX_VALUE), BAD);
        due(28, "far below", x.tree(t, Long.MIN_VALUE), BAD);
        due(28, "no such tongue", x.tree(1, 0), BAD);
        dueRow(28, "the row stays", x, rows[7]);
        int u = chain(x, 2, 3);
        due(28, "the one tree", x.tree(u, 0), 4);
        due(28, "no second one", x.tree(u, 1), NONE);
        dueRow(28, "the row stays", x, 2, 2, 2, 0);
        // every size once: 40 trees, and the last is of size 40
        int v = x.tongue(1);
        x.rule(v, 0, 0, 0, 0);
        x.rule(v, 2, 0, 0, 0);
        x.last(v, 0, true);
        due(28, "of size 40", x.tree(v, 39), 40);
        due(28, "its numbers", x.told(1), 40);
        due(29, "its place", x.place(v), 39);
        due(28, "of size 41", x.tree(v, 40), NONE);
        due(28, "the row stays", x.told(1), 40);
        long[] numbers = {8, 99, 12345, 987654321L, 1000000000000L, 999999999999999999L};
        int all = x.of(0, t, x.not(t));
        for (long k : numbers) {
            int size = x.tree(all, k);
            due(28, "numbers", x.told(1), size);
            due(28, "a tree", x.told(3), 1);
            due(29, "there and back", x.place(all), k);
        }
    }

    private static void places() {
        TreeTongues x = common();
        int t = withoutOne(x);
        // all trees in order: 0, 1, 2 0, 2 1, 2 2 0, 2 2 1, 3 0 0, 3 0 1, 3 1 0, 3 1 1
        int[][] rows = {{0}, {1}, {2, 0}, {2, 1}, {2, 2, 0}, {2, 2, 1}, {3, 0, 0}, {3, 0, 1},
            {3, 1, 0}, {3, 1, 1}};
        int[] ahead = {0, 1, 1, 2, 2, 3, 3, 4, 4, 4};
        for (int i = 0; i < rows.length; i++) {
            setRow(x, rows[i]);
            due(29, "place " + i, x.place(t), ahead[i]);
        }
        due(29, "no such tongue", x.place(1), -1);
        due(29, "no such tongue", x.place(-1), -1);
        setRow(x, 3, 1);
        due(29, "no tree", x.place(t), -1);
        x.drop();
        for (int i = 0; i < 39; i++) {
            x.put(2);
        }
        x.put(1);
        int v = x.tongue(1);
        x.rule(v, 0, 0, 0, 0);
        x.rule(v, 2, 0, 0, 0);
        x.last(v, 0, true);
        due(29, "size 40", x.place(v), 40);
        int all = x.of(0, t, x.not(t));
        due(29, "that many or more", x.place(all), CAP);
        x.drop();
        for (int i = 0; i < 40; i++) {
            x.put(2);
        }
        x.put(1);
        due(29, "size 41", x.place(v), -1);
        due(29, "it is a tree", x.told(3), 1);
    }

    private static void telling() {
        TreeTongues x = common();
        due(30, "signs", x.told(0), 4);
        x.put(3);
        x.put(0);
        due(30, "numbers", x.told(1), 2);
        due(30, "no tree", x.told(3), 0);
        x.put(1);
        due(30, "a tree", x.told(3), 1);
        x.put(1);
        due(30, "no tree any more", x.told(3), 0);
        withoutOne(x);
        x.not(0);
        due(30, "tongues", x.told(2), 2);
        due(30, "told(4)", x.told(4), BAD);
        due(30, "told(-1)", x.told(-1), BAD);
    }

    private static void largeOnes() {
        TreeTongues x = common();
        int big = large(x);
        int t = withoutOne(x);
        due(18, "large", x.classes(big), LARGE);
        due(19, "large ahead of BAD classes", x.go(big, 3, 99, 99), LARGE);
        due(19, "BAD sign ahead of large", x.go(big, 9, 0, 0), BAD);
        due(20, "large ahead of BAD class", x.isLast(big, 99), LARGE);
        due(21, "large ahead of BAD class", x.size(big, -99), LARGE);
        due(22, "NOT ahead of large", x.classOf(big), NOT);
        due(23, "NOT ahead of large", x.has(big), NOT);
        x.put(0);
        due(22, "large", x.classOf(big), LARGE);
        due(23, "large", x.has(big), LARGE);
        due(29, "large", x.place(big), -1);
        due(24, "large", x.least(big), LARGE);
        due(25, "large", x.unlike(big, t), LARGE);
        due(25, "large", x.unlike(t, big), LARGE);
        due(25, "large, though the same", x.unlike(big, big), LARGE);
        due(26, "large", x.ends(big), LARGE);
        due(27, "large", x.count(big, 3), -1);
        due(28, "large", x.tree(big, 0), LARGE);
        due(28, "BAD ahead of large", x.tree(big, -1), BAD);
        due(10, "large", x.of(0, big, t), LARGE);
        due(10, "large", x.of(0, t, big), LARGE);
        due(10, "BAD ahead of large", x.of(4, t, big), BAD);
        due(11, "large", x.not(big), LARGE);
        due(12, "large", x.renamed(big, 0 | 1 << 3 | 2 << 6 | 3 << 9), LARGE);
        due(12, "BAD ahead of large", x.renamed(big, -1), BAD);
        due(13, "large", x.back(big, 0 | 1 << 3 | 2 << 6 | 3 << 9), LARGE);
        due(13, "BAD ahead of large", x.back(big, 0), BAD);
        due(14, "large", x.parts(big), LARGE);
        due(15, "large", x.within(big), LARGE);
        due(16, "large", x.grafted(big, 0, t), LARGE);
        due(16, "large", x.grafted(t, 0, big), LARGE);
        due(16, "BAD ahead of large", x.grafted(big, 2, big), BAD);
        due(10, "nothing was made", x.told(2), 2);
        due(28, "the row stays", x.told(1), 1);
        // it is still told, and may be large no more
        due(8, "a rule more", x.rule(big, 1, 0, 0, 0), 10);
        due(9, "no final state", x.last(big, 4, false), 1);
        due(18, "no tree, one class", x.classes(big), 1);

        // what is made may be large though those it is made of are not
        TreeTongues y = withSigns(0, 1);
        int two = chainLoop(y, 3);
        int three = chainLoop(y, 4);
        due(18, "by threes", y.classes(two), 3);
        due(18, "by fours", y.classes(three), 4);
        due(10, "by twelves", y.of(1, two, three), LARGE);
        due(25, "by twelves", y.unlike(two, three), LARGE);
        due(10, "nothing was made", y.told(2), 2);
        int six = chainLoop(y, 2);
        due(10, "by sixes", y.of(1, two, six), 3);
        due(18, "by sixes", y.classes(3), 6);
        due(21, "the sixth", y.size(3, 5), 6);
        due(25, "by sixes", y.unlike(two, six), 3);
        // four steps are five classes and the rest; eight would be nine and the rest
        due(18, "four steps", y.classes(chain(y, 1, 4)), 6);
        due(16, "eight steps", y.grafted(4, 0, 4), LARGE);
        due(7, "the next number", y.tongue(1), 5);
    }

    /** All chains of sign 1 upon sign 0 whose steps are so many, or twice as many, and so on. */
    private static int chainLoop(TreeTongues x, int length) {
        int t = x.tongue(length);
        x.rule(t, 0, 0, 0, 0);
        for (int i = 0; i < length; i++) {
            x.rule(t, 1, i, 0, (i + 1) % length);
        }
        x.last(t, 0, true);
        return t;
    }

    private static void fullTongues() {
        TreeTongues x = common();
        int big = large(x);
        int t = withoutOne(x);
        int same = 0 | 1 << 3 | 2 << 6 | 3 << 9;
        for (int i = 2; i < 16; i++) {
            due(11, "not", x.not(t), i);
        }
        due(10, "full", x.of(0, t, t), FULL);
        due(11, "full", x.not(t), FULL);
        due(12, "full", x.renamed(t, same), FULL);
        due(13, "full", x.back(t, same), FULL);
        due(14, "full", x.parts(t), FULL);
        due(15, "full", x.within(t), FULL);
        due(16, "full", x.grafted(t, 0, t), FULL);
        due(10, "FULL ahead of LARGE", x.of(0, big, big), FULL);
        due(11, "FULL ahead of LARGE", x.not(big), FULL);
        due(12, "FULL ahead of LARGE", x.renamed(big, same), FULL);
        due(13, "FULL ahead of LARGE", x.back(big, same), FULL);
        due(14, "FULL ahead of LARGE", x.parts(big), FULL);
        due(15, "FULL ahead of LARGE", x.within(big), FULL);
        due(16, "FULL ahead of LARGE", x.grafted(big, 0, big), FULL);
        due(10, "BAD ahead of FULL", x.of(7, t, t), BAD);
        due(11, "BAD ahead of FULL", x.not(16), BAD);
        due(12, "BAD ahead of FULL", x.renamed(t, 0), BAD);
        due(13, "BAD ahead of FULL", x.back(t, 0), BAD);
        due(14, "BAD ahead of FULL", x.parts(16), BAD);
        due(15, "BAD ahead of FULL", x.within(-1), BAD);
        due(16, "BAD ahead of FULL", x.grafted(t, 3, t), BAD);
        due(25, "asking needs no place", x.unlike(t, 2), 1);
        due(17, "undo", x.undo(), 15);
        due(14, "a place is free", x.parts(t), 15);
    }

    /** What is told later does not change what was made. */
    private static void snapshots() {
        TreeTongues x = common();
        int t = onlyLeaf(x, 0);
        int same = 0 | 1 << 3 | 2 << 6 | 3 << 9;
        int[] made = {x.of(0, t, t), x.renamed(t, same), x.back(t, same), x.parts(t),
            x.grafted(t, 0, t)};
        int n = x.not(t);
        int w = x.within(t);
        x.rule(t, 1, 0, 0, 0);
        due(10, "two leaves", x.count(t, 1), 2);
        for (int m : made) {
            due(10, "still one leaf", x.count(m, 1), 1);
        }
        due(11, "still the other leaf", x.count(n, 1), 1);
        due(15, "still one leaf", x.count(w, 1), 1);
        x.last(t, 0, false);
        due(9, "no leaf", x.count(t, 1), 0);
        due(10, "still one leaf", x.count(made[0], 1), 1);
    }
}
