import java.util.ArrayList;
import java.util.HashSet;
import java.util.LinkedHashSet;
import java.util.List;
import java.util.Random;
import java.util.Set;
import java.util.function.ToIntFunction;

/**
 * What is made of two small tongues, held against the document's words on the sets of their trees:
 * no machine stands between. Told tongues have two states here, so that a few signs more than a
 * part has are enough to find a tree that it is a part of, if there is one.
 */
public final class DefinitionTests {
    private static final Bench bench = new Bench();
    private static final int[] RANKS = {0, 2, 0, 1};
    /** A part, with one step to the other state: a pair, and a first tree of three signs. */
    private static final int MOST = 7;
    private static final int MOST_PART = MOST - 4;
    private static final int MOST_LOOKED_AT = 5;
    private static final int MAP = 2 | 1 << 3 | 0 << 6 | 3 << 9;
    private static final int TO_ONE_LEAF = 2 | 1 << 3 | 2 << 6 | 3 << 9;
    private static final List<Tree> TREES = allTrees();

    private record Tree(int sign, List<Tree> parts) {
        int size() {
            int size = 1;
            for (Tree p : parts) {
                size += p.size();
            }
            return size;
        }

        void write(TreeTongues x) {
            x.put(sign);
            parts.forEach(p -> p.write(x));
        }
    }

    public static void main(String[] args) {
        for (int seed = 0; seed < 150; seed++) {
            new DefinitionTests(seed).run();
        }
        bench.due(16, "trees that were grafted and not large", grafts > 40 ? 1 : 0, 1);
        bench.end();
    }

    private static int grafts = 0;
    private final int seed;
    private final List<List<int[]>> rules = new ArrayList<>();
    private final List<Integer> finals = new ArrayList<>();
    private final Set<Tree> a;
    private final Set<Tree> b;

    private DefinitionTests(int seed) {
        this.seed = seed;
        Random random = new Random(seed);
        for (int t = 0; t < 2; t++) {
            List<int[]> list = new ArrayList<>();
            for (int i = 2 + random.nextInt(7); i > 0; i--) {
                list.add(new int[] {random.nextInt(4), random.nextInt(2), random.nextInt(2),
                    random.nextInt(2)});
            }
            rules.add(list);
            finals.add(random.nextInt(2));
        }
        a = treesIn(0);
        b = treesIn(1);
    }

    // ---- all small trees, in order

    private static List<Tree> allTrees() {
        List<List<Tree>> bySize = new ArrayList<>();
        bySize.add(List.of());
        List<Tree> all = new ArrayList<>();
        for (int n = 1; n <= MOST; n++) {
            List<Tree> list = new ArrayList<>();
            for (int s = 0; s < RANKS.length; s++) {
                if (RANKS[s] == 0 && n == 1) {
                    list.add(new Tree(s, List.of()));
                }
                for (Tree x : RANKS[s] == 1 ? bySize.get(n - 1) : List.<Tree>of()) {
                    list.add(new Tree(s, List.of(x)));
                }
                for (int i = 1; RANKS[s] == 2 && i < n - 1; i++) {
                    for (Tree x : bySize.get(i)) {
                        for (Tree y : bySize.get(n - 1 - i)) {
                            list.add(new Tree(s, List.of(x, y)));
                        }
                    }
                }
            }
            bySize.add(list);
            all.addAll(list);
        }
        return all;
    }

    // ---- told tongues

    private Set<Integer> statesOf(Tree tree, List<int[]> list) {
        List<Set<Integer>> parts = new ArrayList<>();
        tree.parts.forEach(p -> parts.add(statesOf(p, list)));
        Set<Integer> states = new HashSet<>();
        for (int[] r : list) {
            boolean fits = r[0] == tree.sign;
            for (int i = 0; i < parts.size(); i++) {
                fits = fits && parts.get(i).contains(r[1 + i]);
            }
            if (fits) {
                states.add(r[3]);
            }
        }
        return states;
    }

    private Set<Tree> treesIn(int t) {
        Set<Tree> in = new LinkedHashSet<>();
        for (Tree tree : TREES) {
            if (statesOf(tree, rules.get(t)).contains(finals.get(t))) {
                in.add(tree);
            }
        }
        return in;
    }

    private TreeTongues told() {
        TreeTongues x = Bench.withSigns(RANKS);
        for (int t = 0; t < 2; t++) {
            x.tongue(2);
            for (int[] r : rules.get(t)) {
                x.rule(t, r[0], r[1], r[2], r[3]);
            }
            x.last(t, finals.get(t), true);
        }
        return x;
    }

    // ---- what is made, as sets

    private static Tree renamed(Tree tree, int map) {
        List<Tree> parts = new ArrayList<>();
        tree.parts.forEach(p -> parts.add(renamed(p, map)));
        return new Tree(map >> 3 * tree.sign & 7, parts);
    }

    private static void addParts(Tree tree, Set<Tree> into) {
        into.add(tree);
        tree.parts.forEach(p -> addParts(p, into));
    }

    /** All trees up to the size that come of one, if trees of the graft are put for each leaf. */
    private List<Tree> grafted(Tree tree, int leaf, int most) {
        List<Tree> all = new ArrayList<>();
        if (tree.sign == leaf) {
            b.stream().filter(t -> t.size() <= most).forEach(all::add);
        } else if (tree.parts.isEmpty()) {
            all.add(tree);
        } else {
            for (Tree x : grafted(tree.parts.get(0), leaf, most - 1)) {
                if (tree.parts.size() == 1) {
                    all.add(new Tree(tree.sign, List.of(x)));
                    continue;
                }
                for (Tree y : grafted(tree.parts.get(1), leaf, most - 1 - x.size())) {
                    all.add(new Tree(tree.sign, List.of(x, y)));
                }
            }
        }
        return all;
    }

    private interface Test {
        boolean is(Tree tree);
    }

    private static Set<Tree> those(Test test) {
        Set<Tree> set = new LinkedHashSet<>();
        for (Tree tree : TREES) {
            if (test.is(tree)) {
                set.add(tree);
            }
        }
        return set;
    }

    private static Set<Tree> withParts(Tree tree) {
        Set<Tree> set = new HashSet<>();
        addParts(tree, set);
        return set;
    }

    private void run() {
        holds(8, "told", x -> 0, a, MOST);
        holds(10, "either", x -> x.of(0, 0, 1), those(t -> a.contains(t) || b.contains(t)), MOST);
        holds(10, "both", x -> x.of(1, 0, 1), those(t -> a.contains(t) && b.contains(t)), MOST);
        holds(10, "less", x -> x.of(2, 0, 1), those(t -> a.contains(t) && !b.contains(t)), MOST);
        holds(10, "apart", x -> x.of(3, 0, 1), those(t -> a.contains(t) != b.contains(t)), MOST);
        holds(11, "not", x -> x.not(0), those(t -> !a.contains(t)), MOST);
        for (int map : new int[] {MAP, TO_ONE_LEAF}) {
            Set<Tree> come = new HashSet<>();
            a.forEach(t -> come.add(renamed(t, map)));
            holds(12, "renamed", x -> x.renamed(0, map), come, MOST);
            holds(13, "back", x -> x.back(0, map), those(t -> a.contains(renamed(t, map))), MOST);
        }
        Set<Tree> parts = new HashSet<>();
        a.forEach(t -> addParts(t, parts));
        holds(14, "parts", x -> x.parts(0), parts, MOST_PART);
        holds(15, "within", x -> x.within(0),
                those(t -> withParts(t).stream().anyMatch(a::contains)), MOST);
        for (int leaf : new int[] {0, 2}) {
            Set<Tree> come = new HashSet<>();
            a.forEach(t -> come.addAll(grafted(t, leaf, MOST)));
            holds(16, "grafted", x -> x.grafted(0, leaf, 1), come, MOST);
        }
    }

    /** The tongue has just the trees of the set, up to a size; it may be large where two meet. */
    private void holds(int promise, String what, ToIntFunction<TreeTongues> maker, Set<Tree> want,
            int most) {
        String name = "seed " + seed + ": " + what;
        TreeTongues x = told();
        int t = maker.applyAsInt(x);
        if (t == Bench.LARGE && (promise == 10 || promise == 12 || promise == 16)) {
            return;
        }
        grafts += promise == 16 ? 1 : 0;
        for (int n = 1; n <= most; n++) {
            int size = n;
            bench.due(promise, name + ", size " + n, x.count(t, n),
                    want.stream().filter(tree -> tree.size() == size).count());
        }
        int calls = 100;
        int ahead = 0;
        for (Tree tree : TREES) {
            if (tree.size() > Math.min(most, MOST_LOOKED_AT)) {
                break;
            }
            calls += 10;
            if (calls > 500) {
                calls = 100;
                x = told();
                maker.applyAsInt(x);
            }
            x.drop();
            tree.write(x);
            bench.due(promise, name + ", " + tree, x.has(t), want.contains(tree) ? 1 : 0);
            bench.due(29, name + ", place of " + tree, x.place(t), ahead);
            ahead += want.contains(tree) ? 1 : 0;
        }
    }
}
