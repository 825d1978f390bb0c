import java.util.ArrayList;
import java.util.List;
import java.util.function.Consumer;
import java.util.function.Function;
import java.util.function.ToLongFunction;

/**
 * What the tests of edges share: answers held against those that are due, and refused calls, after
 * which an object is compared with one that was never asked. Every object stays below 512 calls.
 */
final class Bench {
    static final int NONE = -1, BAD = -2, NOT = -3, FULL = -4, LARGE = -5;
    static final long CAP = 1000000000000000000L;
    static final int LOWEST = Integer.MIN_VALUE;
    static final int HIGHEST = Integer.MAX_VALUE;

    private int asked = 0;
    private int wrong = 0;

    void due(int promise, String what, long got, long want) {
        asked++;
        if (got != want) {
            wrong++;
            System.out.println("promise " + promise + ": " + what + " answered " + got
                    + ", due is " + want);
        }
    }

    void dueRow(int promise, String what, TreeTongues x, int... want) {
        due(promise, what + ": numbers", x.told(1), want.length);
        for (int i = 0; i < want.length; i++) {
            due(promise, what + ": at " + i, x.at(i), want[i]);
        }
    }

    void end() {
        System.out.println(asked + " answers asked, " + wrong + " wrong");
        if (wrong != 0) {
            System.exit(1);
        }
    }

    // ---- calls that change nothing

    static TreeTongues made(Consumer<TreeTongues> setup) {
        TreeTongues x = new TreeTongues();
        setup.accept(x);
        return x;
    }

    /** The call answers so, twice, and nothing that can be asked has changed then. */
    void stays(int promise, String what, Consumer<TreeTongues> setup,
            ToLongFunction<TreeTongues> call, long want) {
        TreeTongues x = made(setup);
        due(promise, what, call.applyAsLong(x), want);
        due(promise, what + ", again", call.applyAsLong(x), want);
        due(promise, what + ": looks that show a change",
                changesSeen(setup, call), 0);
    }

    /** How many of the looks tell an object that was called from one that was not. */
    static int changesSeen(Consumer<TreeTongues> setup, ToLongFunction<TreeTongues> call) {
        List<Function<TreeTongues, List<Long>>> looks = List.of(Bench::lookAtRow,
                Bench::lookAtMachines, Bench::lookAtTrees, Bench::lookAtRules, Bench::lookAtPlaces);
        int seen = 0;
        for (Function<TreeTongues, List<Long>> look : looks) {
            TreeTongues called = made(setup);
            call.applyAsLong(called);
            seen += look.apply(called).equals(look.apply(made(setup))) ? 0 : 1;
        }
        return seen;
    }

    private static List<Long> lookAtRow(TreeTongues x) {
        List<Long> seen = new ArrayList<>();
        for (int what = 0; what < 4; what++) {
            seen.add((long) x.told(what));
        }
        for (int s = 0; s < 6; s++) {
            seen.add((long) x.rank(s));
        }
        for (int i = 0; i < 120; i++) {
            seen.add((long) x.at(i));
        }
        return seen;
    }

    private static List<Long> lookAtMachines(TreeTongues x) {
        List<Long> seen = new ArrayList<>();
        for (int t = 0; t < 16; t++) {
            seen.add((long) x.classes(t));
            seen.add((long) x.ends(t));
            for (int c = 0; c < 6; c++) {
                seen.add((long) x.isLast(t, c));
                seen.add((long) x.size(t, c));
            }
        }
        return seen;
    }

    private static List<Long> lookAtTrees(TreeTongues x) {
        List<Long> seen = new ArrayList<>();
        for (int t = 0; t < 16; t++) {
            seen.add((long) x.has(t));
            seen.add(x.place(t));
            for (int n = 1; n <= 8; n++) {
                seen.add(x.count(t, n));
            }
        }
        return seen;
    }

    /** Rules and final states show only in what more of them answer, and make. */
    private static List<Long> lookAtRules(TreeTongues x) {
        List<Long> seen = new ArrayList<>();
        for (int t = 0; t < 16; t++) {
            seen.add((long) x.rule(t, 0, 0, 0, 0));
            for (int q = 0; q < 5; q++) {
                seen.add((long) x.last(t, q, true));
            }
            for (int n = 1; n <= 4; n++) {
                seen.add(x.count(t, n));
            }
        }
        return seen;
    }

    private static List<Long> lookAtPlaces(TreeTongues x) {
        List<Long> seen = new ArrayList<>();
        seen.add((long) x.sign(0));
        seen.add((long) x.tongue(1));
        seen.add((long) x.put(0));
        for (int i = 0; i < 17; i++) {
            seen.add((long) x.undo());
        }
        for (int i = 0; i < 6; i++) {
            seen.add((long) x.sign(1));
        }
        return seen;
    }

    // ---- signs, rows and tongues that many tests begin with

    static void signs(TreeTongues x, int... ranks) {
        for (int r : ranks) {
            x.sign(r);
        }
    }

    static TreeTongues withSigns(int... ranks) {
        return made(x -> signs(x, ranks));
    }

    /** Signs 0 and 1 of rank 0, 2 of rank 1, 3 of rank 2. */
    static void common(TreeTongues x) {
        signs(x, 0, 0, 1, 2);
    }

    /** The map that gives each sign of common() itself. */
    static final int SAME = 1 << 3 | 2 << 6 | 3 << 9;

    static void setRow(TreeTongues x, int... numbers) {
        x.drop();
        for (int n : numbers) {
            x.put(n);
        }
    }

    /** The row becomes so many times one sign, and then another. */
    static void setRowOf(TreeTongues x, int times, int sign, int then) {
        x.drop();
        for (int i = 0; i < times; i++) {
            x.put(sign);
        }
        x.put(then);
    }

    /** All trees without sign 1, over the signs of common(): two classes. */
    static int withoutOne(TreeTongues x) {
        int t = x.tongue(1);
        x.rule(t, 0, 0, 0, 0);
        x.rule(t, 2, 0, 0, 0);
        x.rule(t, 3, 0, 0, 0);
        x.last(t, 0, true);
        return t;
    }

    static int onlyLeaf(TreeTongues x, int leaf) {
        int t = x.tongue(1);
        x.rule(t, leaf, 0, 0, 0);
        x.last(t, 0, true);
        return t;
    }

    /** All trees over as many signs as there are: one class. */
    static int all(TreeTongues x) {
        int t = x.tongue(1);
        for (int s = 0; s < x.told(0); s++) {
            x.rule(t, s, 0, 0, 0);
        }
        x.last(t, 0, true);
        return t;
    }

    /** The one tree of so many steps of a sign of rank 1 upon leaf 0: two classes more. */
    static int chain(TreeTongues x, int step, int length) {
        int t = x.tongue(length + 1);
        x.rule(t, 0, 0, 0, 0);
        for (int i = 0; i < length; i++) {
            x.rule(t, step, i, 0, i + 1);
        }
        x.last(t, length, true);
        return t;
    }

    /** Leaf 0 with no steps, or with so many, or twice as many, and so on. */
    static int loop(TreeTongues x, int step, int length) {
        int t = x.tongue(length);
        x.rule(t, 0, 0, 0, 0);
        for (int i = 0; i < length; i++) {
            x.rule(t, step, i, 0, (i + 1) % length);
        }
        x.last(t, 0, true);
        return t;
    }

    /** Leaf 0 with an even number of steps that is not 0: three classes. */
    static int evenButNone(TreeTongues x, int step) {
        int t = x.tongue(3);
        x.rule(t, 0, 0, 0, 0);
        x.rule(t, step, 0, 0, 1);
        x.rule(t, step, 1, 0, 2);
        x.rule(t, step, 2, 0, 1);
        x.last(t, 2, true);
        return t;
    }

    /** Six classes over the signs of common(): up to three steps to go, none to go, or as leaf 1. */
    static int sixClasses(TreeTongues x) {
        int t = x.tongue(4);
        x.rule(t, 0, 0, 0, 0);
        for (int i = 0; i < 3; i++) {
            x.rule(t, 2, i, 0, i + 1);
        }
        x.rule(t, 1, 0, 0, 2);
        x.rule(t, 1, 0, 0, 3);
        x.last(t, 3, true);
        return t;
    }

    /** The same with a seventh class, which comes with the last rule: a pair of states 1 and 3. */
    static int sevenClasses(TreeTongues x) {
        int t = sixClasses(x);
        x.rule(t, 3, 0, 0, 1);
        x.rule(t, 3, 0, 0, 3);
        return t;
    }
}
