import java.util.function.Consumer;

/** The edges of promises 7 to 9 and 17: tongues that are told, and the one that came last. */
public final class ToldEdges {
    private static final Bench bench = new Bench();
    private static final int BAD = Bench.BAD, NOT = Bench.NOT, FULL = Bench.FULL;
    private static final int[] FAR = {-1, Bench.LOWEST, Bench.HIGHEST};

    public static void main(String[] args) {
        statesOfNewTongues();
        theSeventeenthTongue();
        statesThatAreThere();
        rulesOfNoTongueOrSign();
        rulesOfNoState();
        partsThatAreNotLookedAt();
        theFortyFirstRule();
        theFirstThatFitsForRule();
        aRuleThatIsThere();
        statesThatAreLast();
        theFirstThatFitsForLast();
        undoingUpToNone();
        nothingIsLeftOfOneThatWent();
        bench.end();
    }

    private static void statesOfNewTongues() {
        for (int states : new int[] {0, -1, 6, Bench.LOWEST, Bench.HIGHEST}) {
            bench.stays(7, states + " states", x -> { }, x -> x.tongue(states), BAD);
            bench.stays(7, states + " states", x -> {
                Bench.common(x);
                Bench.withoutOne(x);
            }, x -> x.tongue(states), BAD);
        }
        for (int states = 1; states <= 5; states++) {
            bench.due(7, states + " states", new TreeTongues().tongue(states), 0);
        }
    }

    private static void sixteen(TreeTongues x) {
        Bench.common(x);
        Bench.withoutOne(x);
        x.not(0);
        for (int t = 2; t < 16; t++) {
            x.tongue(1 + t % 5);
        }
    }

    private static void theSeventeenthTongue() {
        TreeTongues x = new TreeTongues();
        for (int t = 0; t < 16; t++) {
            bench.due(7, "tongue " + t, x.tongue(1 + t % 5), t);
        }
        for (int states = 1; states <= 5; states++) {
            int s = states;
            bench.stays(7, "a seventeenth", ToldEdges::sixteen, y -> y.tongue(s), FULL);
        }
        bench.stays(7, "BAD and FULL", ToldEdges::sixteen, y -> y.tongue(0), BAD);
        bench.stays(7, "BAD and FULL", ToldEdges::sixteen, y -> y.tongue(6), BAD);
        x.undo();
        bench.due(7, "a place is free", x.tongue(5), 15);
        bench.due(7, "and it is taken", x.tongue(5), FULL);
    }

    private static void statesThatAreThere() {
        for (int states = 1; states <= 5; states++) {
            TreeTongues x = Bench.made(Bench::common);
            int t = x.tongue(states);
            int top = states - 1;
            bench.due(9, "the first of " + states, x.last(t, 0, false), 0);
            bench.due(9, "the last of " + states, x.last(t, top, true), 0);
            bench.due(8, "the last of " + states, x.rule(t, 3, top, top, top), 1);
            bench.due(8, "the first of " + states, x.rule(t, 3, 0, 0, 0), 2);
            bench.due(8, "q, one too far", x.rule(t, 3, 0, 0, states), BAD);
            bench.due(8, "first, one too far", x.rule(t, 3, states, 0, 0), BAD);
            bench.due(8, "second, one too far", x.rule(t, 3, 0, states, 0), BAD);
            bench.due(9, "one too far", x.last(t, states, true), BAD);
            bench.due(8, "no more rules came", x.rule(t, 0, 0, 0, top), 3);
            bench.due(24, "the leaf is of the final state", x.least(t), 1);
        }
    }

    private static void toldAndMade(TreeTongues x) {
        Bench.common(x);
        x.tongue(3);
        x.rule(0, 0, 0, 0, 0);
        x.rule(0, 2, 0, 0, 2);
        x.last(0, 2, true);
        x.parts(0);
    }

    private static void rulesOfNoTongueOrSign() {
        for (int t : new int[] {-1, 2, 15, 16, Bench.LOWEST, Bench.HIGHEST}) {
            bench.stays(8, "no tongue " + t, ToldEdges::toldAndMade, x -> x.rule(t, 0, 0, 0, 0),
                    BAD);
        }
        for (int s : new int[] {-1, 4, 6, Bench.LOWEST, Bench.HIGHEST}) {
            bench.stays(8, "no sign " + s, ToldEdges::toldAndMade, x -> x.rule(0, s, 0, 0, 0), BAD);
        }
        for (int t : new int[] {16, 17, -1}) {
            bench.stays(8, "sixteen, no tongue " + t, ToldEdges::sixteen,
                    x -> x.rule(t, 0, 0, 0, 0), BAD);
        }
        TreeTongues x = Bench.made(ToldEdges::sixteen);
        bench.due(8, "the sixteenth", x.rule(15, 0, 0, 0, 0), 1);
        bench.due(8, "the last sign", x.rule(15, 3, 0, 0, 0), 2);
    }

    private static void rulesOfNoState() {
        for (int q : new int[] {-1, 3, Bench.LOWEST, Bench.HIGHEST}) {
            for (int sign : new int[] {0, 2, 3}) {
                bench.stays(8, "sign " + sign + ", no q " + q, ToldEdges::toldAndMade,
                        x -> x.rule(0, sign, 0, 0, q), BAD);
            }
            bench.stays(8, "rank 1, no first " + q, ToldEdges::toldAndMade,
                    x -> x.rule(0, 2, q, 0, 0), BAD);
            bench.stays(8, "rank 2, no first " + q, ToldEdges::toldAndMade,
                    x -> x.rule(0, 3, q, 0, 0), BAD);
            bench.stays(8, "rank 2, no second " + q, ToldEdges::toldAndMade,
                    x -> x.rule(0, 3, 0, q, 0), BAD);
        }
    }

    private static void partsThatAreNotLookedAt() {
        int[] odd = {-1, 3, 99, Bench.LOWEST, Bench.HIGHEST};
        TreeTongues x = Bench.made(Bench::common);
        int t = x.tongue(3);
        int rules = 0;
        for (int state : odd) {
            rules++;
            bench.due(8, "rank 0, parts " + state, x.rule(t, 0, state, state, 1), rules);
        }
        for (int state : odd) {
            rules++;
            bench.due(8, "rank 1, second " + state, x.rule(t, 2, 1, state, 2), rules);
        }
        x.last(t, 2, true);
        bench.due(8, "they hold as any", x.least(t), 2);
        bench.dueRow(8, "they hold as any", x, 2, 0);
        bench.due(8, "that tree alone", x.ends(t) * 10 + x.count(t, 2), 11);
    }

    private static void fortyRules(TreeTongues x) {
        Bench.common(x);
        x.tongue(3);
        for (int i = 0; i < 40; i++) {
            x.rule(0, i % 4, i % 3, i / 3 % 3, i / 9 % 3);
        }
        x.tongue(3);
    }

    private static void theFortyFirstRule() {
        TreeTongues x = Bench.made(Bench::common);
        int t = x.tongue(5);
        for (int i = 1; i <= 40; i++) {
            bench.due(8, "rule " + i, x.rule(t, 3, i % 5, i / 5 % 5, i % 3), i);
        }
        bench.due(8, "one more", x.rule(t, 0, 0, 0, 0), FULL);
        bench.due(9, "final states can be told", x.last(t, 0, true), 0);
        bench.due(8, "the refused one is not there", x.count(t, 1), 0);
        bench.due(8, "another tongue has its own", x.rule(x.tongue(1), 0, 0, 0, 0), 1);
        bench.stays(8, "one more", ToldEdges::fortyRules, y -> y.rule(0, 1, 0, 0, 2), FULL);
        bench.stays(8, "one more that is there", ToldEdges::fortyRules, y -> y.rule(0, 0, 0, 0, 0),
                FULL);
    }

    private static void theFirstThatFitsForRule() {
        Consumer<TreeTongues> both = ToldEdges::toldAndMade;
        Consumer<TreeTongues> forty = ToldEdges::fortyRules;
        bench.stays(8, "NOT told", both, x -> x.rule(1, 0, 0, 0, 0), NOT);
        bench.stays(8, "BAD sign and NOT", both, x -> x.rule(1, 4, 0, 0, 0), BAD);
        bench.stays(8, "BAD sign and NOT", both, x -> x.rule(1, -1, 0, 0, 0), BAD);
        bench.stays(8, "BAD sign, NOT, BAD states", both, x -> x.rule(1, 4, 9, 9, 9), BAD);
        bench.stays(8, "NOT and BAD q", both, x -> x.rule(1, 0, 0, 0, 9), NOT);
        bench.stays(8, "NOT and BAD q", both, x -> x.rule(1, 0, 0, 0, -1), NOT);
        bench.stays(8, "NOT and BAD first", both, x -> x.rule(1, 2, -1, 0, 0), NOT);
        bench.stays(8, "NOT and BAD second", both, x -> x.rule(1, 3, 0, 9, 0), NOT);
        bench.stays(8, "BAD sign and FULL", forty, x -> x.rule(0, 4, 0, 0, 0), BAD);
        bench.stays(8, "BAD q and FULL", forty, x -> x.rule(0, 0, 0, 0, 3), BAD);
        bench.stays(8, "BAD first and FULL", forty, x -> x.rule(0, 2, 3, 0, 0), BAD);
        bench.stays(8, "BAD second and FULL", forty, x -> x.rule(0, 3, 0, -1, 0), BAD);
        bench.stays(8, "FULL, what is not looked at", forty, x -> x.rule(0, 0, 9, 9, 0), FULL);
        bench.stays(8, "NOT, where one with forty rules was", x -> {
            Bench.common(x);
            x.tongue(1);
            x.tongue(1);
            for (int i = 0; i < 40; i++) {
                x.rule(1, 0, 0, 0, 0);
            }
            x.undo();
            x.not(0);
        }, x -> x.rule(1, 0, 0, 0, 0), NOT);
    }

    private static void aRuleThatIsThere() {
        TreeTongues x = Bench.made(Bench::common);
        int t = Bench.onlyLeaf(x, 0);
        for (int i = 2; i <= 40; i++) {
            bench.due(8, "it is one more", x.rule(t, 0, 0, 0, 0), i);
        }
        bench.due(8, "up to forty", x.rule(t, 0, 0, 0, 0), FULL);
        bench.due(8, "and holds once", x.count(t, 1), 1);
        bench.due(18, "two classes", x.classes(t), 2);
    }

    private static void statesThatAreLast() {
        for (int t : new int[] {-1, 2, 16, Bench.LOWEST, Bench.HIGHEST}) {
            bench.stays(9, "no tongue " + t, ToldEdges::toldAndMade, x -> x.last(t, 0, true), BAD);
        }
        for (int q : new int[] {-1, 3, 5, Bench.LOWEST, Bench.HIGHEST}) {
            bench.stays(9, "no state " + q, ToldEdges::toldAndMade, x -> x.last(0, q, true), BAD);
            bench.stays(9, "no state " + q, ToldEdges::toldAndMade, x -> x.last(0, q, false), BAD);
        }
        bench.stays(9, "it is already", ToldEdges::toldAndMade, x -> x.last(0, 2, true), 1);
        bench.stays(9, "it is not anyway", ToldEdges::toldAndMade, x -> x.last(0, 1, false), 0);
        TreeTongues x = new TreeTongues();
        x.tongue(5);
        for (int q = 0; q < 5; q++) {
            bench.due(9, "it was not", x.last(0, q, true), 0);
        }
        for (int q = 0; q < 5; q++) {
            bench.due(9, "it was", x.last(0, q, false), 1);
            bench.due(9, "it was not", x.last(0, q, false), 0);
        }
    }

    private static void theFirstThatFitsForLast() {
        Consumer<TreeTongues> both = ToldEdges::toldAndMade;
        bench.stays(9, "NOT told", both, x -> x.last(1, 0, true), NOT);
        for (int q : FAR) {
            bench.stays(9, "NOT and BAD state", both, x -> x.last(1, q, true), NOT);
            bench.stays(9, "BAD tongue and BAD state", both, x -> x.last(2, q, true), BAD);
        }
    }

    private static void undoingUpToNone() {
        bench.stays(17, "a new object", x -> { }, x -> x.undo(), NOT);
        bench.stays(17, "signs and a row, no tongue", x -> {
            Bench.common(x);
            Bench.setRow(x, 3, 0, 1);
        }, x -> x.undo(), NOT);
        TreeTongues x = Bench.made(ToldEdges::sixteen);
        Bench.setRow(x, 3, 0, 1);
        for (int left = 15; left >= 0; left--) {
            bench.due(17, "how many are left", x.undo(), left);
            bench.due(17, "it is gone", x.classes(left), BAD);
        }
        bench.due(17, "there is none", x.undo(), NOT);
        bench.due(17, "nor now", x.undo(), NOT);
        bench.dueRow(17, "the row stays", x, 3, 0, 1);
        bench.due(17, "the signs stay", x.told(0), 4);
        bench.due(17, "the first number comes again", x.tongue(1), 0);
        bench.due(17, "and goes", x.undo(), 0);
    }

    private static void nothingIsLeftOfOneThatWent() {
        TreeTongues x = Bench.made(Bench::common);
        Bench.sevenClasses(x);
        bench.due(18, "large", x.classes(0), Bench.LARGE);
        x.undo();
        x.tongue(5);
        bench.due(17, "not large", x.classes(0), 1);
        bench.due(17, "no final states", x.last(0, 3, false), 0);
        bench.due(17, "no rules", x.rule(0, 1, 0, 0, 4), 1);
        x.last(0, 4, true);
        bench.due(17, "that one alone", x.count(0, 1), 1);
        x.undo();
        Bench.onlyLeaf(x, 0);
        x.not(0);
        bench.due(17, "a made one goes", x.undo(), 1);
        x.tongue(1);
        bench.due(17, "a told one comes", x.rule(1, 0, 0, 0, 0), 1);
        x.undo();
        x.within(0);
        bench.due(17, "a made one comes", x.rule(1, 0, 0, 0, 0), NOT);
        bench.due(17, "as it is made", x.count(1, 2), 1);
        x.undo();
        x.undo();
        // a sign more: what comes in the old places knows it
        bench.due(2, "a sign more", x.sign(0), 4);
        Bench.onlyLeaf(x, 4);
        bench.due(27, "the new leaf", x.count(0, 1), 1);
        bench.due(11, "the others", x.count(x.not(0), 1), 2);
    }
}
