import java.math.BigInteger;
import java.util.ArrayList;
import java.util.Arrays;
import java.util.HashMap;
import java.util.HashSet;
import java.util.LinkedHashMap;
import java.util.List;
import java.util.Map;
import java.util.Random;
import java.util.Set;
import java.util.TreeSet;

/**
 * Random runs of calls, each answered both by TreeTongues and by a plain model that follows the
 * document's words: sets of trees as predicates, machines as maps of sets, counts as BigIntegers.
 */
public final class OracleTests {
    private static final int RUNS = Integer.getInteger("runs", 500);
    private static final long SEED = Long.getLong("seed", 20261118L);
    private static int wrong = 0;
    private static long compared = 0;
    private static final Map<String, Integer> seen = new java.util.TreeMap<>();

    public static void main(String[] args) {
        for (int run = 0; run < RUNS && wrong < 20; run++) {
            new Run(run, new Random(SEED + run)).play();
        }
        System.out.println(compared + " answers compared, " + wrong + " wrong");
        if (Boolean.getBoolean("show")) {
            seen.forEach((k, v) -> System.out.println(k + " " + v));
        }
        if (wrong != 0) {
            System.exit(1);
        }
    }

    // ---- a random run

    private static final class Run {
        final int number;
        final Random random;
        final TreeTongues real = new TreeTongues();
        final Plain plain = new Plain();
        final List<String> calls = new ArrayList<>();
        boolean isDead = false;

        Run(int number, Random random) {
            this.number = number;
            this.random = random;
        }

        void due(String call, long got, long want) {
            calls.add(call + " -> " + want);
            compared++;
            String key = call.substring(0, call.indexOf('(')) + " "
                    + (want < 0 ? Long.toString(want) : want == 1000000000000000000L ? "cap" : "ok");
            seen.merge(key, 1, Integer::sum);
            if (got != want && !isDead) {
                wrong++;
                isDead = true;
                System.out.println("run " + number + ": " + call + " answered " + got + ", due is "
                        + want + " behind:");
                for (String c : calls) {
                    System.out.println("    " + c);
                }
            }
        }

        void play() {
            tellSigns();
            for (int i = 0; calls.size() < 500 && i < 600 && !isDead; i++) {
                int what = random.nextInt(100);
                if (plain.tongues.isEmpty() || what < 12 && plain.tongues.size() < 9) {
                    tellTongue();
                } else if (what < 40) {
                    make();
                } else if (what < 47) {
                    rowCalls();
                } else if (what < 52) {
                    change();
                } else {
                    ask();
                }
                checkRow();
            }
        }

        int near(int bound) {
            int r = random.nextInt(40);
            if (r == 0) {
                return bound;
            }
            if (r == 1) {
                return -1;
            }
            if (r == 2) {
                return random.nextInt();
            }
            return bound <= 0 ? 0 : random.nextInt(bound);
        }

        int tongueNumber() {
            return near(plain.tongues.size());
        }

        void tellSigns() {
            int many = random.nextInt(6) + (random.nextInt(10) == 0 ? 0 : 1);
            for (int i = 0; i < many; i++) {
                int rank = i == 0 && random.nextInt(20) != 0 ? 0 : random.nextInt(3);
                due("sign(" + rank + ")", real.sign(rank), plain.sign(rank));
            }
            if (random.nextInt(5) == 0) {
                int rank = near(3);
                due("sign(" + rank + ")", real.sign(rank), plain.sign(rank));
            }
        }

        void tellTongue() {
            int states = random.nextInt(10) == 0 ? near(6) : 1 + random.nextInt(4);
            int t = plain.tongue(states);
            due("tongue(" + states + ")", real.tongue(states), t);
            if (t < 0) {
                return;
            }
            if (random.nextInt(3) == 0) {
                tellComplete(t, states);
            } else {
                int rules = random.nextInt(random.nextInt(4) == 0 ? 25 : 9);
                for (int i = 0; i < rules; i++) {
                    oneRule(t);
                }
            }
            for (int q = 0; q < states; q++) {
                if (random.nextInt(2) == 0) {
                    due("last(" + t + ", " + q + ", true)", real.last(t, q, true),
                            plain.last(t, q, true));
                }
            }
        }

        void tellComplete(int t, int states) {
            for (int s = 0; s < plain.ranks.size(); s++) {
                int rank = plain.ranks.get(s);
                for (int x = 0; x < (rank > 0 ? states : 1); x++) {
                    for (int y = 0; y < (rank > 1 ? states : 1); y++) {
                        rule(t, s, x, y, random.nextInt(states));
                    }
                }
            }
        }

        void oneRule(int t) {
            rule(t, near(plain.ranks.size()), near(5), near(5), near(5));
        }

        void rule(int t, int s, int x, int y, int q) {
            int states = t >= 0 && t < plain.tongues.size() ? plain.tongues.get(t).states : 1;
            int fx = random.nextInt(20) == 0 ? x : Math.floorMod(x, Math.max(1, states));
            int fy = random.nextInt(20) == 0 ? y : Math.floorMod(y, Math.max(1, states));
            int fq = random.nextInt(20) == 0 ? q : Math.floorMod(q, Math.max(1, states));
            due("rule(" + t + ", " + s + ", " + fx + ", " + fy + ", " + fq + ")",
                    real.rule(t, s, fx, fy, fq), plain.rule(t, s, fx, fy, fq));
        }

        int map() {
            if (random.nextInt(15) == 0) {
                return random.nextInt(1 << 19) - 5;
            }
            int map = 0;
            for (int s = 0; s < plain.ranks.size(); s++) {
                List<Integer> same = new ArrayList<>();
                for (int o = 0; o < plain.ranks.size(); o++) {
                    if (plain.ranks.get(o).equals(plain.ranks.get(s))) {
                        same.add(o);
                    }
                }
                map |= same.get(random.nextInt(same.size())) << 3 * s;
            }
            return random.nextInt(40) == 0 ? map | 1 << 3 * plain.ranks.size() : map;
        }

        void make() {
            int a = tongueNumber();
            int b = tongueNumber();
            int m = map();
            switch (random.nextInt(9)) {
                case 0: case 1:
                    int way = near(4);
                    due("of(" + way + ", " + a + ", " + b + ")", real.of(way, a, b),
                            plain.of(way, a, b));
                    break;
                case 2:
                    due("not(" + a + ")", real.not(a), plain.not(a));
                    break;
                case 3:
                    due("renamed(" + a + ", " + m + ")", real.renamed(a, m), plain.renamed(a, m));
                    break;
                case 4:
                    due("back(" + a + ", " + m + ")", real.back(a, m), plain.back(a, m));
                    break;
                case 5:
                    due("parts(" + a + ")", real.parts(a), plain.parts(a));
                    break;
                case 6:
                    due("within(" + a + ")", real.within(a), plain.within(a));
                    break;
                default:
                    int s = random.nextInt(10) == 0 ? near(plain.ranks.size()) : leaf();
                    due("grafted(" + a + ", " + s + ", " + b + ")", real.grafted(a, s, b),
                            plain.grafted(a, s, b));
            }
            T newest = plain.get(plain.tongues.size() - 1);
            if (newest != null && !newest.told) {
                seen.merge("made of classes: " + newest.machine.n, 1, Integer::sum);
                if (newest.machine.n < 3 && random.nextInt(3) != 0) {
                    due("undo()", real.undo(), plain.undo());
                }
            }
            if (plain.tongues.size() > 15 && random.nextInt(4) == 0 || random.nextInt(40) == 0) {
                for (int i = random.nextInt(15); i >= 0; i--) {
                    due("undo()", real.undo(), plain.undo());
                }
            }
        }

        int leaf() {
            for (int i = 0; i < 20; i++) {
                int s = near(plain.ranks.size());
                if (s >= 0 && s < plain.ranks.size() && plain.ranks.get(s) == 0) {
                    return s;
                }
            }
            return 0;
        }

        void rowCalls() {
            if (random.nextInt(3) == 0) {
                int s = near(plain.ranks.size());
                due("put(" + s + ")", real.put(s), plain.put(s));
                return;
            }
            due("drop()", real.drop(), plain.drop());
            int budget = 1 + random.nextInt(random.nextInt(6) == 0 ? 45 : 9);
            int need = 1;
            for (int i = 0; i < 60 && need > 0 && !plain.ranks.isEmpty(); i++) {
                int s = need + i >= budget ? leaf() : random.nextInt(plain.ranks.size());
                need += plain.ranks.size() > s && s >= 0 ? plain.ranks.get(s) - 1 : 0;
                due("put(" + s + ")", real.put(s), plain.put(s));
            }
        }

        void change() {
            int t = tongueNumber();
            if (random.nextInt(2) == 0) {
                oneRule(t);
            } else {
                int q = near(5);
                boolean is = random.nextBoolean();
                due("last(" + t + ", " + q + ", " + is + ")", real.last(t, q, is),
                        plain.last(t, q, is));
            }
        }

        void ask() {
            int a = tongueNumber();
            int b = tongueNumber();
            switch (random.nextInt(14)) {
                case 0:
                    due("classes(" + a + ")", real.classes(a), plain.classes(a));
                    break;
                case 1: case 2:
                    int s = near(plain.ranks.size());
                    int x = near(6);
                    int y = near(6);
                    due("go(" + a + ", " + s + ", " + x + ", " + y + ")", real.go(a, s, x, y),
                            plain.go(a, s, x, y));
                    break;
                case 3:
                    int c = near(6);
                    due("isLast(" + a + ", " + c + ")", real.isLast(a, c), plain.isLast(a, c));
                    break;
                case 4:
                    int d = near(6);
                    due("size(" + a + ", " + d + ")", real.size(a, d), plain.size(a, d));
                    break;
                case 5:
                    due("classOf(" + a + ")", real.classOf(a), plain.classOf(a));
                    break;
                case 6:
                    due("has(" + a + ")", real.has(a), plain.has(a));
                    break;
                case 7:
                    due("least(" + a + ")", real.least(a), plain.least(a));
                    break;
                case 8:
                    due("unlike(" + a + ", " + b + ")", real.unlike(a, b), plain.unlike(a, b));
                    break;
                case 9:
                    due("ends(" + a + ")", real.ends(a), plain.ends(a));
                    break;
                case 10:
                    int n = random.nextInt(20) == 0 ? near(42) : 1 + random.nextInt(40);
                    due("count(" + a + ", " + n + ")", real.count(a, n), plain.count(a, n));
                    break;
                case 11: case 12:
                    askTree(a);
                    break;
                default:
                    due("place(" + a + ")", real.place(a), plain.place(a));
            }
        }

        void askTree(int a) {
            long k;
            switch (random.nextInt(8)) {
                case 0:
                    k = random.nextLong();
                    break;
                case 1:
                    k = 999999999999999999L + random.nextInt(2);
                    break;
                case 2: case 3: case 4:
                    k = (long) Math.pow(10, random.nextInt(180) / 10.0);
                    break;
                default:
                    k = random.nextInt(20) - 1;
            }
            due("tree(" + a + ", " + k + "L)", real.tree(a, k), plain.tree(a, k, real));
            checkRow();
            due("place(" + a + ")", real.place(a), plain.place(a));
            int b = tongueNumber();
            due("place(" + b + ")", real.place(b), plain.place(b));
        }

        void checkRow() {
            if (real.told(0) != plain.ranks.size() || real.told(1) != plain.row.size()
                    || real.told(2) != plain.tongues.size()) {
                due("told(..)", 0, 1);
            }
            if (real.told(3) != (plain.asTree() == null ? 0 : 1)) {
                due("told(3)", real.told(3), plain.asTree() == null ? 0 : 1);
            }
            for (int i = 0; i < plain.row.size(); i++) {
                if (real.at(i) != plain.row.get(i)) {
                    due("at(" + i + ")", real.at(i), plain.row.get(i));
                }
            }
        }
    }

    // ---- the plain model

    private static final class Tr {
        final int sign;
        final Tr[] parts;
        final int size;

        Tr(int sign, Tr... parts) {
            this.sign = sign;
            this.parts = parts;
            int n = 1;
            for (Tr p : parts) {
                n += p.size;
            }
            size = n;
        }

        void write(List<Integer> into) {
            into.add(sign);
            for (Tr p : parts) {
                p.write(into);
            }
        }

        static int compare(Tr a, Tr b) {
            if (a.size != b.size) {
                return Integer.compare(a.size, b.size);
            }
            if (a.sign != b.sign) {
                return Integer.compare(a.sign, b.sign);
            }
            for (int i = 0; i < a.parts.length; i++) {
                int c = compare(a.parts[i], b.parts[i]);
                if (c != 0) {
                    return c;
                }
            }
            return 0;
        }
    }

    private abstract static class Auto {
        abstract Object step(int sign, Object[] parts);

        abstract boolean accepts(Object state);
    }

    /** The meaning of a tongue, as it was when it was made. */
    private abstract static class Def {
        abstract boolean in(Tr t);

        boolean isPlain() {
            return true;
        }
    }

    private static final class D {
        int n;
        int[][][] go;
        boolean[] fin;
        Tr[] first;
        BigInteger[][] counts;

        int run(Tr t) {
            return go[t.sign][t.parts.length > 0 ? run(t.parts[0]) : 0]
                    [t.parts.length > 1 ? run(t.parts[1]) : 0];
        }
    }

    private static final class T {
        boolean told;
        int states;
        List<int[]> rules = new ArrayList<>();
        boolean[] fin;
        D machine;
        boolean isLarge;
        boolean isReady;
        Def def;
    }

    private static final class Plain {
        static final int BAD = -2, NOT = -3, FULL = -4, LARGE = -5;
        static final BigInteger CAP = BigInteger.TEN.pow(18);
        final List<Integer> ranks = new ArrayList<>();
        List<Integer> row = new ArrayList<>();
        final List<T> tongues = new ArrayList<>();

        int sign(int rank) {
            if (rank < 0 || rank > 2) {
                return BAD;
            }
            if (!tongues.isEmpty()) {
                return NOT;
            }
            if (ranks.size() == 6) {
                return FULL;
            }
            ranks.add(rank);
            return ranks.size() - 1;
        }

        int put(int s) {
            if (s < 0 || s >= ranks.size()) {
                return BAD;
            }
            if (row.size() == 120) {
                return FULL;
            }
            row.add(s);
            return row.size();
        }

        int drop() {
            int n = row.size();
            row.clear();
            return n;
        }

        int tongue(int states) {
            if (states < 1 || states > 5) {
                return BAD;
            }
            if (tongues.size() == 16) {
                return FULL;
            }
            T t = new T();
            t.told = true;
            t.states = states;
            t.fin = new boolean[states];
            tongues.add(t);
            return tongues.size() - 1;
        }

        T get(int a) {
            return a < 0 || a >= tongues.size() ? null : tongues.get(a);
        }

        boolean isSign(int s) {
            return s >= 0 && s < ranks.size();
        }

        int rule(int a, int s, int x, int y, int q) {
            T t = get(a);
            if (t == null || !isSign(s)) {
                return BAD;
            }
            if (!t.told) {
                return NOT;
            }
            int rank = ranks.get(s);
            if (rank >= 1 && (x < 0 || x >= t.states) || rank >= 2 && (y < 0 || y >= t.states)
                    || q < 0 || q >= t.states) {
                return BAD;
            }
            if (t.rules.size() == 40) {
                return FULL;
            }
            t.rules.add(new int[] {s, x, y, q});
            t.isReady = false;
            return t.rules.size();
        }

        int last(int a, int q, boolean is) {
            T t = get(a);
            if (t == null) {
                return BAD;
            }
            if (!t.told) {
                return NOT;
            }
            if (q < 0 || q >= t.states) {
                return BAD;
            }
            int was = t.fin[q] ? 1 : 0;
            t.fin[q] = is;
            t.isReady = false;
            return was;
        }

        // told tongues

        Set<Integer> statesOf(List<int[]> rules, Tr t) {
            List<Set<Integer>> parts = new ArrayList<>();
            for (Tr p : t.parts) {
                parts.add(statesOf(rules, p));
            }
            return statesWith(rules, t.sign, parts);
        }

        Set<Integer> statesWith(List<int[]> rules, int sign, List<Set<Integer>> parts) {
            Set<Integer> all = new TreeSet<>();
            for (int[] r : rules) {
                if (r[0] == sign && (parts.size() < 1 || parts.get(0).contains(r[1]))
                        && (parts.size() < 2 || parts.get(1).contains(r[2]))) {
                    all.add(r[3]);
                }
            }
            return all;
        }

        boolean ready(T t) {
            if (t.isReady) {
                return !t.isLarge;
            }
            List<int[]> rules = new ArrayList<>(t.rules);
            boolean[] fin = t.fin.clone();
            t.def = new Def() {
                boolean in(Tr tree) {
                    for (int q : statesOf(rules, tree)) {
                        if (fin[q]) {
                            return true;
                        }
                    }
                    return false;
                }
            };
            t.machine = reduce(new Auto() {
                @SuppressWarnings("unchecked")
                Object step(int sign, Object[] parts) {
                    List<Set<Integer>> sets = new ArrayList<>();
                    for (Object p : parts) {
                        sets.add((Set<Integer>) p);
                    }
                    return statesWith(rules, sign, sets);
                }

                boolean accepts(Object state) {
                    for (Object q : (Set<?>) state) {
                        if (fin[(Integer) q]) {
                            return true;
                        }
                    }
                    return false;
                }
            });
            t.isLarge = t.machine == null;
            t.isReady = true;
            return !t.isLarge;
        }

        // least machines

        D reduce(Auto auto) {
            Map<Object, Integer> ids = new LinkedHashMap<>();
            List<Object> states = new ArrayList<>();
            Map<List<Integer>, Integer> go = new HashMap<>();
            boolean more = true;
            while (more) {
                more = false;
                int n = states.size();
                for (int s = 0; s < ranks.size(); s++) {
                    int rank = ranks.get(s);
                    for (int x = 0; x < (rank > 0 ? n : 1); x++) {
                        for (int y = 0; y < (rank > 1 ? n : 1); y++) {
                            List<Integer> key = List.of(s, x, y);
                            if (go.containsKey(key)) {
                                continue;
                            }
                            Object[] parts = new Object[rank];
                            if (rank > 0) {
                                parts[0] = states.get(x);
                            }
                            if (rank > 1) {
                                parts[1] = states.get(y);
                            }
                            Object to = auto.step(s, parts);
                            Integer id = ids.get(to);
                            if (id == null) {
                                id = states.size();
                                ids.put(to, id);
                                states.add(to);
                            }
                            go.put(key, id);
                            more = true;
                        }
                    }
                }
            }
            int n = states.size();
            int[][][] table = new int[ranks.size()][Math.max(n, 1)][Math.max(n, 1)];
            go.forEach((k, v) -> table[k.get(0)][k.get(1)][k.get(2)] = v);
            int[] block = new int[n];
            for (int i = 0; i < n; i++) {
                block[i] = auto.accepts(states.get(i)) ? 1 : 0;
            }
            int blocks = 0;
            while (true) {
                Map<List<Integer>, Integer> found = new HashMap<>();
                int[] next = new int[n];
                for (int i = 0; i < n; i++) {
                    List<Integer> key = new ArrayList<>();
                    key.add(block[i]);
                    for (int s = 0; s < ranks.size(); s++) {
                        if (ranks.get(s) == 1) {
                            key.add(block[table[s][i][0]]);
                        }
                        for (int o = 0; ranks.get(s) == 2 && o < n; o++) {
                            key.add(block[table[s][i][o]]);
                            key.add(block[table[s][o][i]]);
                        }
                    }
                    next[i] = found.computeIfAbsent(key, k -> found.size());
                }
                block = next;
                if (found.size() == blocks) {
                    break;
                }
                blocks = found.size();
            }
            return blocks > 6 ? null : number(table, block, blocks, auto, states);
        }

        D number(int[][][] table, int[] block, int blocks, Auto auto, List<Object> states) {
            int n = block.length;
            Tr[] best = new Tr[blocks];
            boolean more = true;
            while (more) {
                more = false;
                for (int s = 0; s < ranks.size(); s++) {
                    int rank = ranks.get(s);
                    for (int x = 0; x < (rank > 0 ? n : 1); x++) {
                        for (int y = 0; y < (rank > 1 ? n : 1); y++) {
                            if (rank > 0 && best[block[x]] == null
                                    || rank > 1 && best[block[y]] == null) {
                                continue;
                            }
                            Tr t = rank == 0 ? new Tr(s) : rank == 1 ? new Tr(s, best[block[x]])
                                    : new Tr(s, best[block[x]], best[block[y]]);
                            int to = block[table[s][x][y]];
                            if (best[to] == null || Tr.compare(t, best[to]) < 0) {
                                best[to] = t;
                                more = true;
                            }
                        }
                    }
                }
            }
            Tr[] sorted = best.clone();
            Arrays.sort(sorted, Tr::compare);
            int[] numberOf = new int[blocks];
            for (int b = 0; b < blocks; b++) {
                numberOf[b] = Arrays.asList(sorted).indexOf(best[b]);
            }
            D d = new D();
            d.n = blocks;
            d.first = sorted;
            d.fin = new boolean[blocks];
            d.go = new int[ranks.size()][Math.max(blocks, 1)][Math.max(blocks, 1)];
            for (int i = 0; i < n; i++) {
                d.fin[numberOf[block[i]]] = auto.accepts(states.get(i));
            }
            for (int s = 0; s < ranks.size(); s++) {
                int rank = ranks.get(s);
                for (int x = 0; x < (rank > 0 ? n : 1); x++) {
                    for (int y = 0; y < (rank > 1 ? n : 1); y++) {
                        if (n > 0 && (rank == 0 || n > 0)) {
                            d.go[s][rank > 0 ? numberOf[block[x]] : 0]
                                    [rank > 1 ? numberOf[block[y]] : 0]
                                    = numberOf[block[table[s][x][y]]];
                        }
                    }
                }
            }
            return d;
        }

        int keep(Auto auto, Def def) {
            D d = reduce(auto);
            if (d == null) {
                return LARGE;
            }
            T t = new T();
            t.machine = d;
            t.isReady = true;
            t.def = def;
            tongues.add(t);
            return tongues.size() - 1;
        }

        int step(D d, int s, Object[] parts, int index) {
            int x = parts.length > 0 ? (Integer) ((List<?>) parts[0]).get(index) : 0;
            int y = parts.length > 1 ? (Integer) ((List<?>) parts[1]).get(index) : 0;
            return d.go[s][x][y];
        }

        boolean byWay(int way, boolean a, boolean b) {
            return way == 0 ? a || b : way == 1 ? a && b : way == 2 ? a && !b : a != b;
        }

        Auto pair(int way, D p, D q) {
            return new Auto() {
                Object step(int s, Object[] parts) {
                    return List.of(Plain.this.step(p, s, parts, 0), Plain.this.step(q, s, parts, 1));
                }

                boolean accepts(Object state) {
                    List<?> both = (List<?>) state;
                    return byWay(way, p.fin[(Integer) both.get(0)], q.fin[(Integer) both.get(1)]);
                }
            };
        }

        int of(int way, int a, int b) {
            if (way < 0 || way > 3 || get(a) == null || get(b) == null) {
                return BAD;
            }
            if (tongues.size() == 16) {
                return FULL;
            }
            T t = get(a);
            T u = get(b);
            if (!ready(t) || !ready(u)) {
                return LARGE;
            }
            Def f = t.def;
            Def g = u.def;
            return keep(pair(way, t.machine, u.machine), new Def() {
                boolean in(Tr x) {
                    return byWay(way, f.in(x), g.in(x));
                }

                boolean isPlain() {
                    return f.isPlain() && g.isPlain();
                }
            });
        }

        private int one(int a) {
            if (get(a) == null) {
                return BAD;
            }
            if (tongues.size() == 16) {
                return FULL;
            }
            return ready(get(a)) ? 0 : LARGE;
        }

        int not(int a) {
            int why = one(a);
            if (why != 0) {
                return why;
            }
            D d = get(a).machine;
            Def f = get(a).def;
            return keep(new Auto() {
                Object step(int s, Object[] parts) {
                    return List.of(Plain.this.step(d, s, parts, 0));
                }

                boolean accepts(Object state) {
                    return !d.fin[(Integer) ((List<?>) state).get(0)];
                }
            }, new Def() {
                boolean in(Tr x) {
                    return !f.in(x);
                }

                boolean isPlain() {
                    return f.isPlain();
                }
            });
        }

        int figure(int map, int s) {
            long p = 1;
            for (int i = 0; i < s; i++) {
                p *= 8;
            }
            return (int) (map / p % 8);
        }

        boolean isMap(int map) {
            if (map < 0) {
                return false;
            }
            for (int s = 0; s < 12; s++) {
                int f = figure(map, s);
                if (s >= ranks.size() ? f != 0 : f >= ranks.size()
                        || !ranks.get(f).equals(ranks.get(s))) {
                    return false;
                }
            }
            return true;
        }

        Tr mapped(int map, Tr t) {
            Tr[] parts = new Tr[t.parts.length];
            for (int i = 0; i < parts.length; i++) {
                parts[i] = mapped(map, t.parts[i]);
            }
            return new Tr(figure(map, t.sign), parts);
        }

        List<Tr> combine(int sign, List<List<Tr>> parts) {
            List<Tr> all = new ArrayList<>();
            if (parts.isEmpty()) {
                all.add(new Tr(sign));
            } else if (parts.size() == 1) {
                for (Tr x : parts.get(0)) {
                    all.add(new Tr(sign, x));
                }
            } else {
                for (Tr x : parts.get(0)) {
                    for (Tr y : parts.get(1)) {
                        all.add(new Tr(sign, x, y));
                    }
                }
            }
            return all;
        }

        List<Tr> unmapped(int map, Tr t) {
            List<List<Tr>> parts = new ArrayList<>();
            for (Tr p : t.parts) {
                parts.add(unmapped(map, p));
            }
            List<Tr> all = new ArrayList<>();
            for (int s = 0; s < ranks.size(); s++) {
                if (figure(map, s) == t.sign) {
                    all.addAll(combine(s, parts));
                }
            }
            return all;
        }

        int renamed(int a, int map) {
            if (!isMap(map)) {
                return BAD;
            }
            int why = one(a);
            if (why != 0) {
                return why;
            }
            D d = get(a).machine;
            Def f = get(a).def;
            return keep(new Auto() {
                Object step(int s, Object[] parts) {
                    Set<Integer> all = new TreeSet<>();
                    for (int o = 0; o < ranks.size(); o++) {
                        if (figure(map, o) == s) {
                            for (Object x : parts.length > 0 ? (Set<?>) parts[0] : Set.of(0)) {
                                for (Object y : parts.length > 1 ? (Set<?>) parts[1] : Set.of(0)) {
                                    all.add(d.go[o][(Integer) x][(Integer) y]);
                                }
                            }
                        }
                    }
                    return all;
                }

                boolean accepts(Object state) {
                    for (Object c : (Set<?>) state) {
                        if (d.fin[(Integer) c]) {
                            return true;
                        }
                    }
                    return false;
                }
            }, new Def() {
                boolean in(Tr t) {
                    for (Tr x : unmapped(map, t)) {
                        if (f.in(x)) {
                            return true;
                        }
                    }
                    return false;
                }

                boolean isPlain() {
                    return f.isPlain();
                }
            });
        }

        int back(int a, int map) {
            if (!isMap(map)) {
                return BAD;
            }
            int why = one(a);
            if (why != 0) {
                return why;
            }
            D d = get(a).machine;
            Def f = get(a).def;
            return keep(new Auto() {
                Object step(int s, Object[] parts) {
                    return List.of(Plain.this.step(d, figure(map, s), parts, 0));
                }

                boolean accepts(Object state) {
                    return d.fin[(Integer) ((List<?>) state).get(0)];
                }
            }, new Def() {
                boolean in(Tr t) {
                    return f.in(mapped(map, t));
                }

                boolean isPlain() {
                    return f.isPlain();
                }
            });
        }

        boolean leads(D d, int from, Set<Integer> been) {
            if (d.fin[from]) {
                return true;
            }
            if (!been.add(from)) {
                return false;
            }
            for (int s = 0; s < ranks.size(); s++) {
                for (int o = 0; o < d.n; o++) {
                    if (ranks.get(s) == 1 && leads(d, d.go[s][from][0], been)
                            || ranks.get(s) == 2 && (leads(d, d.go[s][from][o], been)
                            || leads(d, d.go[s][o][from], been))) {
                        return true;
                    }
                }
            }
            return false;
        }

        int parts(int a) {
            int why = one(a);
            if (why != 0) {
                return why;
            }
            D d = get(a).machine;
            return keep(new Auto() {
                Object step(int s, Object[] parts) {
                    return List.of(Plain.this.step(d, s, parts, 0));
                }

                boolean accepts(Object state) {
                    return leads(d, (Integer) ((List<?>) state).get(0), new HashSet<>());
                }
            }, new Def() {
                boolean in(Tr t) {
                    return leads(d, d.run(t), new HashSet<>());
                }

                boolean isPlain() {
                    return false;
                }
            });
        }

        int within(int a) {
            int why = one(a);
            if (why != 0) {
                return why;
            }
            D d = get(a).machine;
            Def f = get(a).def;
            return keep(new Auto() {
                Object step(int s, Object[] parts) {
                    int to = Plain.this.step(d, s, parts, 0);
                    boolean has = d.fin[to];
                    for (Object p : parts) {
                        has |= (Boolean) ((List<?>) p).get(1);
                    }
                    return List.of(to, has);
                }

                boolean accepts(Object state) {
                    return (Boolean) ((List<?>) state).get(1);
                }
            }, new Def() {
                boolean in(Tr t) {
                    boolean has = f.in(t);
                    for (Tr p : t.parts) {
                        has = has || in(p);
                    }
                    return has;
                }

                boolean isPlain() {
                    return f.isPlain();
                }
            });
        }

        List<Tr> ungrafted(Tr t, int leaf, Def b) {
            List<Tr> all = new ArrayList<>();
            if (t.sign != leaf) {
                List<List<Tr>> parts = new ArrayList<>();
                for (Tr p : t.parts) {
                    parts.add(ungrafted(p, leaf, b));
                }
                all.addAll(combine(t.sign, parts));
            }
            if (b.in(t)) {
                all.add(new Tr(leaf));
            }
            return all;
        }

        int grafted(int a, int leaf, int b) {
            if (get(a) == null || get(b) == null || !isSign(leaf) || ranks.get(leaf) != 0) {
                return BAD;
            }
            if (tongues.size() == 16) {
                return FULL;
            }
            if (!ready(get(a)) || !ready(get(b))) {
                return LARGE;
            }
            D p = get(a).machine;
            D q = get(b).machine;
            Def f = get(a).def;
            Def g = get(b).def;
            return keep(new Auto() {
                Object step(int s, Object[] parts) {
                    int to = Plain.this.step(q, s, parts, 1);
                    Set<Integer> all = new TreeSet<>();
                    if (q.fin[to]) {
                        all.add(p.go[leaf][0][0]);
                    }
                    if (s != leaf) {
                        for (Object x : classesOf(parts, 0)) {
                            for (Object y : classesOf(parts, 1)) {
                                all.add(p.go[s][(Integer) x][(Integer) y]);
                            }
                        }
                    }
                    return List.of(all, to);
                }

                Set<?> classesOf(Object[] parts, int i) {
                    return parts.length > i ? (Set<?>) ((List<?>) parts[i]).get(0) : Set.of(0);
                }

                boolean accepts(Object state) {
                    for (Object c : (Set<?>) ((List<?>) state).get(0)) {
                        if (p.fin[(Integer) c]) {
                            return true;
                        }
                    }
                    return false;
                }
            }, new Def() {
                boolean in(Tr t) {
                    for (Tr x : ungrafted(t, leaf, g)) {
                        if (f.in(x)) {
                            return true;
                        }
                    }
                    return false;
                }

                boolean isPlain() {
                    return f.isPlain() && g.isPlain();
                }
            });
        }

        int undo() {
            if (tongues.isEmpty()) {
                return NOT;
            }
            tongues.remove(tongues.size() - 1);
            return tongues.size();
        }

        // the least machine

        int classes(int a) {
            return get(a) == null ? BAD : !ready(get(a)) ? LARGE : get(a).machine.n;
        }

        int go(int a, int s, int x, int y) {
            if (get(a) == null || !isSign(s)) {
                return BAD;
            }
            if (!ready(get(a))) {
                return LARGE;
            }
            D d = get(a).machine;
            int rank = ranks.get(s);
            if (rank > 0 && (x < 0 || x >= d.n) || rank > 1 && (y < 0 || y >= d.n)) {
                return BAD;
            }
            return d.go[s][rank > 0 ? x : 0][rank > 1 ? y : 0];
        }

        int isLast(int a, int c) {
            int n = classes(a);
            return n < 0 ? n : c < 0 || c >= n ? BAD : get(a).machine.fin[c] ? 1 : 0;
        }

        int size(int a, int c) {
            int n = classes(a);
            return n < 0 ? n : c < 0 || c >= n ? BAD : get(a).machine.first[c].size;
        }

        // asked

        int[] at = new int[1];

        Tr parse() {
            if (at[0] >= row.size()) {
                return null;
            }
            int s = row.get(at[0]++);
            Tr[] parts = new Tr[ranks.get(s)];
            for (int i = 0; i < parts.length; i++) {
                parts[i] = parse();
                if (parts[i] == null) {
                    return null;
                }
            }
            return new Tr(s, parts);
        }

        Tr asTree() {
            at[0] = 0;
            Tr t = parse();
            return t == null || at[0] != row.size() ? null : t;
        }

        int classOf(int a) {
            if (get(a) == null) {
                return BAD;
            }
            Tr t = asTree();
            if (t == null) {
                return NOT;
            }
            return ready(get(a)) ? get(a).machine.run(t) : LARGE;
        }

        int has(int a) {
            int c = classOf(a);
            if (c < 0) {
                return c;
            }
            Tr t = asTree();
            boolean is = get(a).machine.fin[c];
            if (t.size <= 9 && get(a).def.isPlain() && get(a).def.in(t) != is) {
                throw new IllegalStateException("the model's machine is wrong");
            }
            return is ? 1 : 0;
        }

        int setRow(D d) {
            for (int c = 0; c < d.n; c++) {
                if (d.fin[c]) {
                    row = new ArrayList<>();
                    d.first[c].write(row);
                    return row.size();
                }
            }
            return -1;
        }

        int least(int a) {
            int n = classes(a);
            return n < 0 ? n : setRow(get(a).machine);
        }

        int unlike(int a, int b) {
            if (get(a) == null || get(b) == null) {
                return BAD;
            }
            if (!ready(get(a)) || !ready(get(b))) {
                return LARGE;
            }
            D d = reduce(pair(3, get(a).machine, get(b).machine));
            return d == null ? LARGE : setRow(d);
        }

        /** There is no end just if some tree in it is higher than there are classes. */
        int ends(int a) {
            int n = classes(a);
            if (n < 0) {
                return n;
            }
            D d = get(a).machine;
            int most = 2 * n + 1;
            boolean[][] of = new boolean[most + 1][Math.max(n, 1)];
            for (int h = 1; h <= most; h++) {
                for (int s = 0; s < ranks.size(); s++) {
                    int rank = ranks.get(s);
                    if (rank == 0 && h == 1) {
                        of[1][d.go[s][0][0]] = true;
                    }
                    for (int x = 0; rank > 0 && x < n; x++) {
                        if (rank == 1 && of[h - 1][x]) {
                            of[h][d.go[s][x][0]] = true;
                        }
                        for (int y = 0; rank > 1 && y < n; y++) {
                            for (int o = 1; o < h; o++) {
                                if (of[h - 1][x] && of[o][y] || of[o][x] && of[h - 1][y]) {
                                    of[h][d.go[s][x][y]] = true;
                                }
                            }
                        }
                    }
                }
            }
            for (int h = n + 1; h <= most; h++) {
                for (int c = 0; c < n; c++) {
                    if (of[h][c] && d.fin[c]) {
                        return 0;
                    }
                }
            }
            return 1;
        }

        BigInteger[][] counts(D d) {
            if (d.counts != null) {
                return d.counts;
            }
            BigInteger[][] k = new BigInteger[41][Math.max(d.n, 1)];
            for (BigInteger[] r : k) {
                Arrays.fill(r, BigInteger.ZERO);
            }
            d.counts = k;
            for (int n = 1; n <= 40; n++) {
                for (int s = 0; s < ranks.size(); s++) {
                    BigInteger[] by = headed(d, s, n, 1, n);
                    for (int c = 0; c < d.n; c++) {
                        k[n][c] = k[n][c].add(by[c]);
                    }
                }
            }
            return k;
        }

        /** By class: trees of a size with a sign, the first part's size from .. below to. */
        BigInteger[] headed(D d, int s, int n, int from, int to) {
            BigInteger[][] k = d.counts;
            BigInteger[] by = new BigInteger[Math.max(d.n, 1)];
            Arrays.fill(by, BigInteger.ZERO);
            int rank = ranks.get(s);
            if (rank == 0 && n == 1) {
                by[d.go[s][0][0]] = BigInteger.ONE;
            }
            for (int x = 0; rank == 1 && x < d.n; x++) {
                if (from <= n - 1 && n - 1 < to) {
                    by[d.go[s][x][0]] = by[d.go[s][x][0]].add(k[n - 1][x]);
                }
            }
            for (int i = from; rank == 2 && i < Math.min(to, n - 1); i++) {
                for (int x = 0; x < d.n; x++) {
                    for (int y = 0; y < d.n && k[i][x].signum() > 0; y++) {
                        int c = d.go[s][x][y];
                        by[c] = by[c].add(k[i][x].multiply(k[n - 1 - i][y]));
                    }
                }
            }
            return by;
        }

        BigInteger all(D d, int n) {
            BigInteger sum = BigInteger.ZERO;
            for (int c = 0; c < d.n; c++) {
                if (d.fin[c]) {
                    sum = sum.add(counts(d)[n][c]);
                }
            }
            return sum;
        }

        long count(int a, int n) {
            if (get(a) == null || n < 1 || n > 40 || !ready(get(a))) {
                return -1;
            }
            return all(get(a).machine, n).min(CAP).longValue();
        }

        /** By class: trees of the size of t that are ahead of t. */
        BigInteger[] ahead(D d, Tr t) {
            BigInteger[] by = new BigInteger[Math.max(d.n, 1)];
            Arrays.fill(by, BigInteger.ZERO);
            for (int s = 0; s < t.sign; s++) {
                add(by, headed(d, s, t.size, 1, t.size));
            }
            if (t.parts.length == 0) {
                return by;
            }
            add(by, headed(d, t.sign, t.size, 1, t.parts[0].size));
            BigInteger[] x = ahead(d, t.parts[0]);
            for (int c = 0; c < d.n; c++) {
                if (t.parts.length == 1) {
                    by[d.go[t.sign][c][0]] = by[d.go[t.sign][c][0]].add(x[c]);
                } else {
                    for (int e = 0; e < d.n; e++) {
                        int to = d.go[t.sign][c][e];
                        by[to] = by[to].add(x[c].multiply(d.counts[t.parts[1].size][e]));
                    }
                }
            }
            if (t.parts.length == 2) {
                int c = d.run(t.parts[0]);
                BigInteger[] y = ahead(d, t.parts[1]);
                for (int e = 0; e < d.n; e++) {
                    int to = d.go[t.sign][c][e];
                    by[to] = by[to].add(y[e]);
                }
            }
            return by;
        }

        void add(BigInteger[] to, BigInteger[] more) {
            for (int i = 0; i < to.length; i++) {
                to[i] = to[i].add(more[i]);
            }
        }

        BigInteger exactPlace(D d, Tr t) {
            counts(d);
            BigInteger sum = BigInteger.ZERO;
            for (int n = 1; n < t.size; n++) {
                sum = sum.add(all(d, n));
            }
            BigInteger[] by = ahead(d, t);
            for (int c = 0; c < d.n; c++) {
                if (d.fin[c]) {
                    sum = sum.add(by[c]);
                }
            }
            return sum;
        }

        long place(int a) {
            Tr t = asTree();
            if (get(a) == null || t == null || t.size > 40 || !ready(get(a))) {
                return -1;
            }
            return exactPlace(get(a).machine, t).min(CAP).longValue();
        }

        /** Takes the row that the class wrote, and proves that it is the tree that is due. */
        int tree(int a, long k, TreeTongues real) {
            if (get(a) == null || k < 0 || k > 999999999999999999L) {
                return BAD;
            }
            if (!ready(get(a))) {
                return LARGE;
            }
            D d = get(a).machine;
            BigInteger sum = BigInteger.ZERO;
            for (int n = 1; n <= 40; n++) {
                sum = sum.add(all(d, n));
                if (sum.compareTo(BigInteger.valueOf(k)) > 0) {
                    row = new ArrayList<>();
                    for (int i = 0; i < real.told(1); i++) {
                        row.add(real.at(i));
                    }
                    Tr t = asTree();
                    boolean isDue = t != null && t.size == n && d.fin[d.run(t)]
                            && exactPlace(d, t).equals(BigInteger.valueOf(k));
                    return isDue ? n : -99;
                }
            }
            return -1;
        }
    }
}
