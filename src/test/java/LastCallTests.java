import java.util.ArrayList;
import java.util.List;
import java.util.function.ToLongFunction;

/**
 * An object is used for 512 calls: each call answers as the last of them what it answers early. The
 * calls ahead of it use everything that is made again and again, and leave things as they were.
 */
public final class LastCallTests {
    private static final int MOST_CALLS = 512;
    private static final Bench bench = new Bench();

    public static void main(String[] args) {
        asLast(2, "sign(0)", x -> x.sign(0), Bench.NOT);
        asLast(3, "rank(3)", x -> x.rank(3), 2);
        asLast(4, "put(0)", x -> x.put(0), 4);
        asLast(5, "drop()", x -> x.drop(), 3);
        asLast(6, "at(2)", x -> x.at(2), 1);
        asLast(7, "tongue(5)", x -> x.tongue(5), 2);
        asLast(8, "rule(0, 1, 0, 0, 0)", x -> x.rule(0, 1, 0, 0, 0), 4);
        asLast(9, "last(0, 0, false)", x -> x.last(0, 0, false), 1);
        asLast(10, "of(0, 0, 1)", x -> x.of(0, 0, 1), 2);
        asLast(11, "not(0)", x -> x.not(0), 2);
        asLast(12, "renamed(0, SAME)", x -> x.renamed(0, Bench.SAME), 2);
        asLast(13, "back(0, SAME)", x -> x.back(0, Bench.SAME), 2);
        asLast(14, "parts(0)", x -> x.parts(0), 2);
        asLast(15, "within(1)", x -> x.within(1), 2);
        asLast(16, "grafted(0, 0, 1)", x -> x.grafted(0, 0, 1), 2);
        asLast(17, "undo()", x -> x.undo(), 1);
        asLast(18, "classes(0)", x -> x.classes(0), 2);
        asLast(19, "go(0, 3, 0, 1)", x -> x.go(0, 3, 0, 1), 1);
        asLast(20, "isLast(0, 0)", x -> x.isLast(0, 0), 1);
        asLast(21, "size(0, 1)", x -> x.size(0, 1), 1);
        asLast(22, "classOf(0)", x -> x.classOf(0), 1);
        asLast(23, "has(0)", x -> x.has(0), 0);
        asLast(24, "least(1)", x -> x.least(1), 1);
        asLast(25, "unlike(0, 1)", x -> x.unlike(0, 1), 1);
        asLast(26, "ends(1)", x -> x.ends(1), 1);
        asLast(27, "count(0, 3)", x -> x.count(0, 3), 2);
        asLast(28, "tree(0, 3)", x -> x.tree(0, 3), 3);
        asLast(29, "place(0)", x -> x.place(0), 4);
        asLast(30, "told(3)", x -> x.told(3), 1);
        asLast(3, "rank(4)", x -> x.rank(4), Bench.BAD);
        asLast(28, "tree(1, 1)", x -> x.tree(1, 1), Bench.NONE);
        bench.end();
    }

    /** Signs 0, 0, 1, 2; tongue 0 of all trees without sign 1, tongue 1 of leaf 1 alone. */
    private static final List<ToLongFunction<TreeTongues>> SETUP = List.of(
            x -> x.sign(0), x -> x.sign(0), x -> x.sign(1), x -> x.sign(2),
            x -> x.tongue(1), x -> x.rule(0, 0, 0, 0, 0), x -> x.rule(0, 2, 0, 0, 0),
            x -> x.rule(0, 3, 0, 0, 0), x -> x.last(0, 0, true),
            x -> x.tongue(1), x -> x.rule(1, 1, 0, 0, 0), x -> x.last(1, 0, true));

    /** Calls that leave all as it was but the row. */
    private static final List<ToLongFunction<TreeTongues>> ROUND = List.of(
            x -> x.of(3, 0, 1), x -> x.tree(2, 999), x -> x.undo(),
            x -> x.grafted(0, 0, 1), x -> x.grafted(2, 1, 0), x -> x.least(3), x -> x.place(0),
            x -> x.count(3, 40), x -> x.undo(), x -> x.undo(),
            x -> x.tongue(5), x -> x.rule(2, 3, 4, 4, 4), x -> x.last(2, 4, true),
            x -> x.classes(2), x -> x.undo(),
            x -> x.not(1), x -> x.parts(2), x -> x.within(3), x -> x.renamed(4, Bench.SAME),
            x -> x.back(5, Bench.SAME), x -> x.unlike(0, 6),
            x -> x.undo(), x -> x.undo(), x -> x.undo(), x -> x.undo(), x -> x.undo(),
            x -> x.last(0, 0, false), x -> x.last(0, 0, true), x -> x.ends(0));

    private static final List<ToLongFunction<TreeTongues>> ROW = List.of(
            x -> x.drop(), x -> x.put(3), x -> x.put(0), x -> x.put(1));

    private static List<Long> ask(TreeTongues x, List<ToLongFunction<TreeTongues>> calls) {
        List<Long> answers = new ArrayList<>();
        for (ToLongFunction<TreeTongues> call : calls) {
            answers.add(call.applyAsLong(x));
        }
        return answers;
    }

    private static void asLast(int promise, String what, ToLongFunction<TreeTongues> call,
            long want) {
        TreeTongues early = new TreeTongues();
        ask(early, SETUP);
        ask(early, ROW);
        bench.due(promise, what + " early", call.applyAsLong(early), want);

        TreeTongues late = new TreeTongues();
        ask(late, SETUP);
        int left = MOST_CALLS - 1 - SETUP.size() - ROW.size();
        List<Long> first = ask(late, ROUND);
        for (left -= ROUND.size(); left >= ROUND.size(); left -= ROUND.size()) {
            bench.due(promise, "rounds that answer as the first", ask(late, ROUND).equals(first)
                    ? 1 : 0, 1);
        }
        for (; left > 0; left--) {
            late.told(2);
        }
        ask(late, ROW);
        bench.due(promise, what + " as call " + MOST_CALLS, call.applyAsLong(late), want);
    }
}
