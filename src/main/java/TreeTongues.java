import java.util.Arrays;

/**
 * Tongues of trees: sets of trees that a machine knows from below. Every tongue is brought to its
 * least machine; all that is made of tongues, or asked of them, is read off those machines.
 */
public final class TreeTongues {
    public static final int NONE = -1, BAD = -2, NOT = -3, FULL = -4, LARGE = -5;

    private static final int MOST_SIGNS = 6;
    private static final int MOST_RANK = 2;
    private static final int MOST_NUMBERS = 120;
    private static final int MOST_TONGUES = 16;
    private static final int MOST_STATES = 5;
    private static final int MOST_RULES = 40;
    private static final int MOST_CLASSES = 6;
    private static final int MOST_SIZE = 40;
    private static final long MOST_TREES = 1000000000000000000L;

    /** A net holds the classes of two machines side by side. */
    private static final int NET_STATES = 2 * MOST_CLASSES;
    private static final int HALF_SETS = 1 << MOST_CLASSES;
    /** Grafting reaches most: any set of classes of one machine with one class of the other. */
    private static final int MOST_SETS = HALF_SETS * MOST_CLASSES;
    /** One probe for the final sets, and one for each class that is split off. */
    private static final int MOST_PROBES = MOST_CLASSES + 2;
    private static final int OPEN = -1;
    /** Where a sign has no second part, tables hold what it makes as with state 0 alone. */
    private static final int NO_PART = 1;
    /** More than any first tree has: six classes have first trees of 63 signs at most. */
    private static final int NO_SIZE = 1000;

    /** Bit (in the one) + 2 * (in the other): whether a tree that is so is in what is made. */
    private static final int IN_THE_ONE = 10;
    private static final int NOT_IN_THE_ONE = 5;
    private static final int APART = 3;
    private static final int[] WAYS = {14, 8, 2, 6};

    private final Signs signs = new Signs();
    private final Row row = new Row(signs);
    private final Tongue[] tongues = new Tongue[MOST_TONGUES];
    private final Net net = new Net(signs);
    private final Reducer reducer = new Reducer(signs, net);
    private final Machine spare = new Machine(signs);
    private final Census census = new Census(signs, row);
    private int tongueCount = 0;

    public TreeTongues() {
    }

    // ---- signs, rows

    public int sign(int rank) {
        if (rank < 0 || rank > MOST_RANK) {
            return BAD;
        }
        if (tongueCount > 0) {
            return NOT;
        }
        return signs.known >= MOST_SIGNS ? FULL : signs.add(rank);
    }

    public int rank(int sign) {
        return signs.knows(sign) ? signs.rankOf(sign) : BAD;
    }

    public int put(int sign) {
        if (!signs.knows(sign)) {
            return BAD;
        }
        if (row.length >= MOST_NUMBERS) {
            return FULL;
        }
        row.add(sign);
        return row.length;
    }

    public int drop() {
        int had = row.length;
        row.length = 0;
        return had;
    }

    public int at(int i) {
        return i >= 0 && i < row.length ? row.numbers[i] : BAD;
    }

    // ---- tongues that are told

    public int tongue(int states) {
        if (states < 1 || states > MOST_STATES) {
            return BAD;
        }
        if (tongueCount >= MOST_TONGUES) {
            return FULL;
        }
        slot(tongueCount).tell(states);
        return tongueCount++;
    }

    public int rule(int tongue, int sign, int first, int second, int q) {
        Tongue t = find(tongue);
        if (t == null || !signs.knows(sign)) {
            return BAD;
        }
        if (!t.isTold) {
            return NOT;
        }
        int rank = signs.rankOf(sign);
        int one = rank > 0 ? first : 0;
        int two = rank > 1 ? second : 0;
        if (!t.hasState(one) || !t.hasState(two) || !t.hasState(q)) {
            return BAD;
        }
        if (t.rules >= MOST_RULES) {
            return FULL;
        }
        t.addRule(sign, one, two, q);
        return t.rules;
    }

    public int last(int tongue, int q, boolean is) {
        Tongue t = find(tongue);
        if (t == null) {
            return BAD;
        }
        if (!t.isTold) {
            return NOT;
        }
        return t.hasState(q) ? t.setFinal(q, is) : BAD;
    }

    // ---- made of others

    public int of(int way, int a, int b) {
        Tongue one = find(a);
        Tongue other = find(b);
        if (way < 0 || way >= WAYS.length || one == null || other == null) {
            return BAD;
        }
        if (tongueCount >= MOST_TONGUES) {
            return FULL;
        }
        if (isLarge(one) || isLarge(other)) {
            return LARGE;
        }
        net.setBoth(one.machine, other.machine, WAYS[way]);
        return keep();
    }

    public int not(int a) {
        Tongue t = find(a);
        if (t == null) {
            return BAD;
        }
        if (tongueCount >= MOST_TONGUES) {
            return FULL;
        }
        if (isLarge(t)) {
            return LARGE;
        }
        net.setOne(t.machine, t.machine.finals, NOT_IN_THE_ONE);
        return keep();
    }

    public int renamed(int a, int map) {
        Tongue t = find(a);
        if (t == null || !signs.isMap(map)) {
            return BAD;
        }
        if (tongueCount >= MOST_TONGUES) {
            return FULL;
        }
        if (isLarge(t)) {
            return LARGE;
        }
        net.setRenamed(t.machine, map);
        return keep();
    }

    public int back(int a, int map) {
        Tongue t = find(a);
        if (t == null || !signs.isMap(map)) {
            return BAD;
        }
        if (tongueCount >= MOST_TONGUES) {
            return FULL;
        }
        if (isLarge(t)) {
            return LARGE;
        }
        net.setBack(t.machine, map);
        return keep();
    }

    public int parts(int a) {
        Tongue t = find(a);
        if (t == null) {
            return BAD;
        }
        if (tongueCount >= MOST_TONGUES) {
            return FULL;
        }
        if (isLarge(t)) {
            return LARGE;
        }
        net.setOne(t.machine, t.machine.living(), IN_THE_ONE);
        return keep();
    }

    public int within(int a) {
        Tongue t = find(a);
        if (t == null) {
            return BAD;
        }
        if (tongueCount >= MOST_TONGUES) {
            return FULL;
        }
        if (isLarge(t)) {
            return LARGE;
        }
        net.setWithin(t.machine);
        return keep();
    }

    public int grafted(int a, int sign, int b) {
        Tongue stock = find(a);
        Tongue graft = find(b);
        if (stock == null || graft == null || !signs.knows(sign) || signs.rankOf(sign) != 0) {
            return BAD;
        }
        if (tongueCount >= MOST_TONGUES) {
            return FULL;
        }
        if (isLarge(stock) || isLarge(graft)) {
            return LARGE;
        }
        net.setGrafted(stock.machine, sign, graft.machine);
        return keep();
    }

    public int undo() {
        if (tongueCount <= 0) {
            return NOT;
        }
        tongueCount--;
        return tongueCount;
    }

    // ---- the least machine

    public int classes(int a) {
        Tongue t = find(a);
        if (t == null) {
            return BAD;
        }
        return isLarge(t) ? LARGE : t.machine.classCount;
    }

    public int go(int a, int sign, int first, int second) {
        Tongue t = find(a);
        if (t == null || !signs.knows(sign)) {
            return BAD;
        }
        if (isLarge(t)) {
            return LARGE;
        }
        int rank = signs.rankOf(sign);
        if (rank > 0 && !t.machine.hasClass(first) || rank > 1 && !t.machine.hasClass(second)) {
            return BAD;
        }
        return t.machine.step(sign, first, second);
    }

    public int isLast(int a, int c) {
        Tongue t = find(a);
        if (t == null) {
            return BAD;
        }
        if (isLarge(t)) {
            return LARGE;
        }
        return t.machine.hasClass(c) ? t.machine.finalBit(c) : BAD;
    }

    public int size(int a, int c) {
        Tongue t = find(a);
        if (t == null) {
            return BAD;
        }
        if (isLarge(t)) {
            return LARGE;
        }
        return t.machine.hasClass(c) ? t.machine.sizes[c] : BAD;
    }

    // ---- asked

    public int classOf(int a) {
        Tongue t = find(a);
        if (t == null) {
            return BAD;
        }
        if (!row.isTree()) {
            return NOT;
        }
        return isLarge(t) ? LARGE : row.readBy(t.machine);
    }

    public int has(int a) {
        Tongue t = find(a);
        if (t == null) {
            return BAD;
        }
        if (!row.isTree()) {
            return NOT;
        }
        return isLarge(t) ? LARGE : t.machine.finalBit(row.readBy(t.machine));
    }

    public int least(int a) {
        Tongue t = find(a);
        if (t == null) {
            return BAD;
        }
        return isLarge(t) ? LARGE : writeLeast(t.machine);
    }

    public int unlike(int a, int b) {
        Tongue one = find(a);
        Tongue other = find(b);
        if (one == null || other == null) {
            return BAD;
        }
        if (isLarge(one) || isLarge(other)) {
            return LARGE;
        }
        net.setBoth(one.machine, other.machine, WAYS[APART]);
        reducer.reduceTo(spare);
        return spare.isLarge ? LARGE : writeLeast(spare);
    }

    public int ends(int a) {
        Tongue t = find(a);
        if (t == null) {
            return BAD;
        }
        if (isLarge(t)) {
            return LARGE;
        }
        return t.machine.isEndless() ? 0 : 1;
    }

    public long count(int a, int n) {
        Tongue t = find(a);
        if (t == null || n < 1 || n > MOST_SIZE || isLarge(t)) {
            return -1;
        }
        return census.treesOf(t.machine, n);
    }

    public int tree(int a, long k) {
        Tongue t = find(a);
        if (t == null || k < 0 || k >= MOST_TREES) {
            return BAD;
        }
        return isLarge(t) ? LARGE : census.writeNumber(t.machine, k);
    }

    public long place(int a) {
        Tongue t = find(a);
        if (t == null || !row.isTree() || row.length > MOST_SIZE || isLarge(t)) {
            return -1;
        }
        return census.aheadOfRow(t.machine);
    }

    public int told(int what) {
        switch (what) {
            case 0:
                return signs.known;
            case 1:
                return row.length;
            case 2:
                return tongueCount;
            case 3:
                return row.isTree() ? 1 : 0;
            default:
                return BAD;
        }
    }

    // ---- the tongues' places

    private Tongue find(int a) {
        return a >= 0 && a < tongueCount && a < MOST_TONGUES ? tongues[a] : null;
    }

    /** Places are kept when their tongues go, so that a run never makes more of them than fit. */
    private Tongue slot(int a) {
        if (tongues[a] == null) {
            tongues[a] = new Tongue(signs);
        }
        return tongues[a];
    }

    private boolean isLarge(Tongue t) {
        if (t.isStale) {
            net.setTold(t);
            reducer.reduceTo(t.machine);
            t.isStale = false;
        }
        return t.machine.isLarge;
    }

    /** What stands in the net becomes the next tongue, if it is not large. */
    private int keep() {
        Tongue t = slot(tongueCount);
        t.isTold = false;
        t.isStale = false;
        reducer.reduceTo(t.machine);
        return t.machine.isLarge ? LARGE : tongueCount++;
    }

    /** Classes are numbered by their first trees, so the first final one has the first tree. */
    private int writeLeast(Machine machine) {
        for (int c = 0; c < machine.classCount; c++) {
            if (machine.finalBit(c) == 1) {
                row.becomeFirstTree(machine, c);
                return row.length;
            }
        }
        return NONE;
    }

    /** The signs and their ranks. */
    private static final class Signs {
        private final int[] ranks = new int[MOST_SIGNS];
        int known = 0;
        boolean havePairs = false;

        int add(int rank) {
            if (known >= MOST_SIGNS) {
                return FULL;
            }
            ranks[known] = rank;
            havePairs = havePairs || rank == 2;
            return known++;
        }

        boolean knows(int sign) {
            return sign >= 0 && sign < known;
        }

        int rankOf(int sign) {
            return sign >= 0 && sign < known ? ranks[sign] : 0;
        }

        /** How many numbers to try for a part: a part that is not there counts as number 0. */
        int choices(int sign, int part, int among) {
            return rankOf(sign) > part ? among : 1;
        }

        /** Where a table of this width has a sign and the numbers of its parts. */
        int cell(int sign, int first, int second, int width) {
            int rank = rankOf(sign);
            return (sign * width + (rank > 0 ? first : 0)) * width + (rank > 1 ? second : 0);
        }

        boolean isMap(int map) {
            if (map < 0) {
                return false;
            }
            for (int s = 0; s < known; s++) {
                int to = mapped(map, s);
                if (!knows(to) || ranks[to] != ranks[s]) {
                    return false;
                }
            }
            return map >> 3 * known == 0;
        }

        int mapped(int map, int sign) {
            return map >> 3 * sign & 7;
        }
    }

    /** THE ROW. */
    private static final class Row {
        private final Signs signs;
        final int[] numbers = new int[MOST_NUMBERS];
        /** The size of the tree that begins at each number; 0 where none does. */
        final int[] spans = new int[MOST_NUMBERS];
        final int[] kinds = new int[MOST_NUMBERS];
        int length = 0;

        Row(Signs signs) {
            this.signs = signs;
        }

        void add(int sign) {
            if (length < MOST_NUMBERS) {
                numbers[length] = sign;
                length++;
            }
        }

        boolean isTree() {
            for (int i = length - 1; i >= 0; i--) {
                spans[i] = spanFrom(i);
            }
            return length > 0 && spans[0] == length;
        }

        private int spanFrom(int i) {
            int end = i + 1;
            for (int part = signs.rankOf(numbers[i]); part > 0; part--) {
                if (end >= length || spans[end] == 0) {
                    return 0;
                }
                end += spans[end];
            }
            return end - i;
        }

        int secondPart(int i) {
            return i + 1 < length ? i + 1 + spans[i + 1] : length;
        }

        /** The class of the tree that the row is; those of its parts stay in kinds. */
        int readBy(Machine machine) {
            for (int i = length - 1; i >= 0; i--) {
                int second = secondPart(i);
                kinds[i] = machine.step(numbers[i],
                        i + 1 < length ? kinds[i + 1] : 0, second < length ? kinds[second] : 0);
            }
            return kinds[0];
        }

        void becomeFirstTree(Machine machine, int c) {
            length = 0;
            addFirstTree(machine, c, 0);
        }

        /** The parts of a first tree are first trees of classes ahead of its own. */
        private void addFirstTree(Machine machine, int c, int depth) {
            if (!machine.hasClass(c) || depth >= MOST_CLASSES) {
                return;
            }
            int sign = machine.heads[c];
            add(sign);
            if (signs.rankOf(sign) > 0) {
                addFirstTree(machine, machine.firsts[c], depth + 1);
            }
            if (signs.rankOf(sign) > 1) {
                addFirstTree(machine, machine.seconds[c], depth + 1);
            }
        }
    }

    /** A tongue: its rules, if it is told, and its least machine. */
    private static final class Tongue {
        private final Signs signs;
        final Machine machine;
        /** The set of states that the rules give for a sign and states of its parts. */
        private final int[] targets = new int[MOST_SIGNS * MOST_STATES * MOST_STATES];
        int states = 0;
        int rules = 0;
        int finals = 0;
        boolean isTold = false;
        boolean isStale = false;

        Tongue(Signs signs) {
            this.signs = signs;
            machine = new Machine(signs);
        }

        void tell(int stateCount) {
            Arrays.fill(targets, 0);
            states = stateCount;
            rules = 0;
            finals = 0;
            isTold = true;
            isStale = true;
        }

        boolean hasState(int q) {
            return q >= 0 && q < states;
        }

        int targetsOf(int sign, int first, int second) {
            return targets[signs.cell(sign, first, second, MOST_STATES)];
        }

        void addRule(int sign, int first, int second, int q) {
            targets[signs.cell(sign, first, second, MOST_STATES)] |= 1 << q;
            rules++;
            isStale = true;
        }

        int setFinal(int q, boolean is) {
            int was = finals >> q & 1;
            finals = is ? finals | 1 << q : finals & ~(1 << q);
            isStale = true;
            return was;
        }
    }

    /** A least machine, its classes numbered by their first trees. */
    private static final class Machine {
        private final Signs signs;
        final int[] table = new int[MOST_SIGNS * MOST_CLASSES * MOST_CLASSES];
        /** The first tree of each class: its sign, the classes of its parts, its size. */
        final int[] heads = new int[MOST_CLASSES];
        final int[] firsts = new int[MOST_CLASSES];
        final int[] seconds = new int[MOST_CLASSES];
        final int[] sizes = new int[MOST_CLASSES];
        /** How many trees of each size each class has, once isCounted. */
        final long[] counts = new long[(MOST_SIZE + 1) * MOST_CLASSES];
        private final int[] above = new int[MOST_CLASSES];
        private final int[] classKinds = new int[MOST_CLASSES];
        private final int[] kindClasses = new int[MOST_CLASSES];
        int classCount = 0;
        int finals = 0;
        boolean isLarge = false;
        boolean isCounted = false;

        Machine(Signs signs) {
            this.signs = signs;
        }

        boolean hasClass(int c) {
            return c >= 0 && c < classCount;
        }

        int finalBit(int c) {
            return finals >> c & 1;
        }

        int step(int sign, int first, int second) {
            return table[signs.cell(sign, first, second, MOST_CLASSES)];
        }

        void becomeLarge() {
            classCount = 0;
            finals = 0;
            isLarge = true;
            isCounted = false;
        }

        /** Takes a table of kinds in any order, and numbers them by their first trees. */
        void take(int[] kindTable, int kindCount, int kindFinals) {
            becomeLarge();
            Arrays.fill(kindClasses, OPEN);
            for (int c = 0; c < kindCount && c < MOST_CLASSES; c++) {
                int kind = findFirst(kindTable, c);
                classKinds[c] = kind;
                kindClasses[kind] = c;
                finals |= (kindFinals >> kind & 1) << c;
                classCount++;
            }
            fillTable(kindTable);
            isLarge = false;
        }

        /** The kind whose first tree comes next, the first c classes having their numbers. */
        private int findFirst(int[] kindTable, int c) {
            int found = 0;
            sizes[c] = NO_SIZE;
            for (int s = 0; s < signs.known; s++) {
                for (int x = 0; x < signs.choices(s, 0, c); x++) {
                    for (int y = 0; y < signs.choices(s, 1, c); y++) {
                        int kind = kindWith(kindTable, s, x, y);
                        int size = sizeWith(s, x, y);
                        if (kindClasses[kind] == OPEN && size < sizes[c]) {
                            found = kind;
                            sizes[c] = size;
                            heads[c] = s;
                            firsts[c] = x;
                            seconds[c] = y;
                        }
                    }
                }
            }
            return found;
        }

        private int kindWith(int[] kindTable, int sign, int first, int second) {
            int cell = signs.cell(sign, classKinds[first], classKinds[second], MOST_CLASSES);
            return Math.max(0, kindTable[cell]);
        }

        private int sizeWith(int sign, int first, int second) {
            int rank = signs.rankOf(sign);
            return 1 + (rank > 0 ? sizes[first] : 0) + (rank > 1 ? sizes[second] : 0);
        }

        private void fillTable(int[] kindTable) {
            for (int s = 0; s < signs.known; s++) {
                for (int x = 0; x < signs.choices(s, 0, classCount); x++) {
                    for (int y = 0; y < signs.choices(s, 1, classCount); y++) {
                        int kind = kindWith(kindTable, s, x, y);
                        table[signs.cell(s, x, y, MOST_CLASSES)] = kindClasses[kind];
                    }
                }
            }
        }

        /** The classes whose trees are parts of trees in the tongue: every class has trees. */
        int living() {
            int living = finals;
            listAbove();
            for (int round = 0; round < classCount; round++) {
                for (int c = 0; c < classCount; c++) {
                    if ((above[c] & living) != 0) {
                        living |= 1 << c;
                    }
                }
            }
            return living;
        }

        /** There is no end, if a class that lives can stand above itself. */
        boolean isEndless() {
            int living = living();
            for (int by = 0; by < classCount; by++) {
                for (int c = 0; c < classCount; c++) {
                    if ((above[c] >> by & 1) != 0) {
                        above[c] |= above[by];
                    }
                }
            }
            for (int c = 0; c < classCount; c++) {
                if ((living >> c & 1) != 0 && (above[c] >> c & 1) != 0) {
                    return true;
                }
            }
            return false;
        }

        /** The classes of the trees that have a tree of each class as one of their parts. */
        private void listAbove() {
            Arrays.fill(above, 0);
            for (int s = 0; s < signs.known; s++) {
                int rank = signs.rankOf(s);
                for (int x = 0; rank > 0 && x < classCount; x++) {
                    for (int y = 0; y < signs.choices(s, 1, classCount); y++) {
                        int to = 1 << step(s, x, y);
                        above[x] |= to;
                        above[y] |= rank > 1 ? to : 0;
                    }
                }
            }
        }
    }

    /**
     * A machine that may be in several states at once, of which a least machine is to be made. What
     * a tree is of is a set of states, written as the bits of a number.
     */
    private static final class Net {
        private final Signs signs;
        private final int[] images = new int[MOST_SIGNS * NET_STATES * NET_STATES];
        int states = 0;
        private int oneFinals = 0;
        private int otherFinals = 0;
        private int way = IN_THE_ONE;

        Net(Signs signs) {
            this.signs = signs;
        }

        boolean accepts(int set) {
            int side = ((set & oneFinals) != 0 ? 1 : 0) + ((set & otherFinals) != 0 ? 2 : 0);
            return (way >> side & 1) != 0;
        }

        int leafImage(int sign) {
            return images[sign * NET_STATES * NET_STATES];
        }

        /** What a sign of rank 1 makes of a set of states. */
        int imageAlone(int sign, int set) {
            int image = 0;
            for (int state = 0; state < states; state++) {
                if ((set >> state & 1) != 0) {
                    image |= images[(sign * NET_STATES + state) * NET_STATES];
                }
            }
            return image;
        }

        /** What a sign of rank 2 makes of a state as one part and a set of states as the other. */
        int image(int sign, boolean asFirst, int state, int other) {
            int base = sign * NET_STATES * NET_STATES;
            int image = 0;
            for (int o = 0; o < states; o++) {
                if ((other >> o & 1) != 0) {
                    int cell = asFirst ? state * NET_STATES + o : o * NET_STATES + state;
                    image |= images[base + cell];
                }
            }
            return image;
        }

        private void lead(int sign, int first, int second, int set) {
            images[signs.cell(sign, first, second, NET_STATES)] |= set;
        }

        private void begin(int stateCount, int finals, int asWay) {
            Arrays.fill(images, 0);
            states = stateCount;
            oneFinals = finals;
            otherFinals = 0;
            way = asWay;
        }

        /** A sign does in the net what another does in the machine; its classes begin at base. */
        private void enter(Machine machine, int base, int sign, int asSign) {
            int many = machine.classCount;
            for (int x = 0; x < signs.choices(sign, 0, many); x++) {
                for (int y = 0; y < signs.choices(sign, 1, many); y++) {
                    lead(sign, base + x, base + y, 1 << base + machine.step(asSign, x, y));
                }
            }
        }

        void setTold(Tongue t) {
            begin(t.states, t.finals, IN_THE_ONE);
            for (int s = 0; s < signs.known; s++) {
                for (int x = 0; x < signs.choices(s, 0, t.states); x++) {
                    for (int y = 0; y < signs.choices(s, 1, t.states); y++) {
                        lead(s, x, y, t.targetsOf(s, x, y));
                    }
                }
            }
        }

        void setOne(Machine machine, int finals, int asWay) {
            begin(machine.classCount, finals, asWay);
            for (int s = 0; s < signs.known; s++) {
                enter(machine, 0, s, s);
            }
        }

        void setBoth(Machine one, Machine other, int asWay) {
            begin(MOST_CLASSES + other.classCount, one.finals, asWay);
            otherFinals = other.finals << MOST_CLASSES;
            for (int s = 0; s < signs.known; s++) {
                enter(one, 0, s, s);
                enter(other, MOST_CLASSES, s, s);
            }
        }

        void setRenamed(Machine machine, int map) {
            begin(machine.classCount, machine.finals, IN_THE_ONE);
            for (int s = 0; s < signs.known; s++) {
                enter(machine, 0, signs.mapped(map, s), s);
            }
        }

        void setBack(Machine machine, int map) {
            begin(machine.classCount, machine.finals, IN_THE_ONE);
            for (int s = 0; s < signs.known; s++) {
                enter(machine, 0, s, signs.mapped(map, s));
            }
        }

        /** What has a part of a final class stays in that class. */
        void setWithin(Machine machine) {
            begin(machine.classCount, machine.finals, IN_THE_ONE);
            int many = machine.classCount;
            for (int s = 0; s < signs.known; s++) {
                int rank = signs.rankOf(s);
                for (int x = 0; x < signs.choices(s, 0, many); x++) {
                    for (int y = 0; y < signs.choices(s, 1, many); y++) {
                        int to = machine.step(s, x, y);
                        if (rank > 0 && machine.finalBit(x) == 1) {
                            to = x;
                        } else if (rank > 1 && machine.finalBit(y) == 1) {
                            to = y;
                        }
                        lead(s, x, y, 1 << to);
                    }
                }
            }
        }

        /** A tree in the graft may also be taken as the leaf in whose place it was put. */
        void setGrafted(Machine stock, int leaf, Machine graft) {
            begin(MOST_CLASSES + graft.classCount, stock.finals, IN_THE_ONE);
            int asLeaf = 1 << stock.step(leaf, 0, 0);
            int many = graft.classCount;
            for (int s = 0; s < signs.known; s++) {
                enter(graft, MOST_CLASSES, s, s);
                if (s != leaf) {
                    enter(stock, 0, s, s);
                }
                for (int x = 0; x < signs.choices(s, 0, many); x++) {
                    for (int y = 0; y < signs.choices(s, 1, many); y++) {
                        int isIn = graft.finalBit(graft.step(s, x, y));
                        lead(s, MOST_CLASSES + x, MOST_CLASSES + y, isIn == 1 ? asLeaf : 0);
                    }
                }
            }
        }
    }

    /**
     * What a sign makes of a set of states as one part, the other part being given. It is held for
     * both halves of a set apart, so that a set costs two looks however many states it has.
     */
    private static final class Step {
        private final int[] low = new int[HALF_SETS];
        private final int[] high = new int[HALF_SETS];

        void load(Net net, int sign, boolean asFirst, int other) {
            for (int state = 0; state < net.states && state < NET_STATES; state++) {
                boolean isLow = state < MOST_CLASSES;
                int[] unions = isLow ? low : high;
                int bit = 1 << (isLow ? state : state - MOST_CLASSES);
                int one = net.image(sign, asFirst, state, other);
                for (int set = 0; set < bit; set++) {
                    unions[bit + set] = unions[set] | one;
                }
            }
        }

        int from(int set) {
            return low[set & HALF_SETS - 1] | high[set >> MOST_CLASSES & HALF_SETS - 1];
        }
    }

    /**
     * Brings a net to its least machine. The sets of states that trees have are reached one by one
     * and told apart by probes: a probe puts a tree in one place of a bigger one and asks whether
     * that is in the tongue. Sets that no probe tells apart are held to be of one kind, until two
     * of them lead to two kinds: that gives one probe more, and all is looked at anew. So a tongue
     * that is large shows it as soon as there are too many kinds.
     */
    private static final class Reducer {
        private final Signs signs;
        private final Net net;

        private final int[] sets = new int[MOST_SETS];
        /** Bit p: what probe p answers for the set. */
        private final int[] marks = new int[MOST_SETS];
        private final int[] kinds = new int[MOST_SETS];
        /** One more than the number of each set that is reached, else 0. */
        private final int[] numbers = new int[HALF_SETS * HALF_SETS];
        private int reached = 0;

        /** The first set of each kind, and the marks of all its sets. */
        private final int[] kindSets = new int[MOST_CLASSES];
        private final int[] kindMarks = new int[MOST_CLASSES];
        private final int[] table = new int[MOST_SIGNS * MOST_CLASSES * MOST_CLASSES];
        private int kindCount = 0;
        private boolean areTooMany = false;

        /** A probe makes its step and then asks as an earlier one; probe 0 asks at once. */
        private final Step[] probes = new Step[MOST_PROBES];
        private final int[] nextProbes = new int[MOST_PROBES];
        private int probeCount = 1;
        private final Step toFirst = new Step();
        private final Step toSecond = new Step();

        Reducer(Signs signs, Net net) {
            this.signs = signs;
            this.net = net;
            for (int p = 0; p < MOST_PROBES; p++) {
                probes[p] = new Step();
            }
        }

        void reduceTo(Machine machine) {
            begin();
            boolean isSteady = false;
            for (int round = 0; round < MOST_PROBES && !isSteady && !areTooMany; round++) {
                Arrays.fill(table, OPEN);
                isSteady = sortKinds() && reachLeaves() && reachAll();
            }
            if (isSteady) {
                machine.take(table, kindCount, finalKinds());
            } else {
                machine.becomeLarge();
            }
        }

        private void begin() {
            for (int i = 0; i < reached; i++) {
                numbers[sets[i]] = 0;
            }
            reached = 0;
            probeCount = 1;
            areTooMany = false;
        }

        private int finalKinds() {
            int finals = 0;
            for (int k = 0; k < kindCount; k++) {
                finals |= (kindMarks[k] & 1) << k;
            }
            return finals;
        }

        private boolean sortKinds() {
            kindCount = 0;
            for (int i = 0; i < reached; i++) {
                marks[i] = marksOf(sets[i]);
                kinds[i] = kindWith(marks[i], sets[i]);
                if (kinds[i] == OPEN) {
                    return false;
                }
            }
            return true;
        }

        private int marksOf(int set) {
            int bits = 0;
            for (int p = 0; p < probeCount; p++) {
                int at = set;
                int q = p;
                for (int hop = 0; hop < MOST_PROBES && q > 0; hop++) {
                    at = probes[q].from(at);
                    q = nextProbes[q];
                }
                bits |= net.accepts(at) ? 1 << p : 0;
            }
            return bits;
        }

        /** The kind with these marks, a new one if there is none yet; OPEN: there are too many. */
        private int kindWith(int bits, int set) {
            for (int k = 0; k < kindCount; k++) {
                if (kindMarks[k] == bits) {
                    return k;
                }
            }
            if (kindCount >= MOST_CLASSES) {
                areTooMany = true;
                return OPEN;
            }
            kindMarks[kindCount] = bits;
            kindSets[kindCount] = set;
            return kindCount++;
        }

        /** The number of a set, a new one if it was not reached yet; OPEN: too many kinds. */
        private int reach(int set) {
            if (numbers[set] > 0) {
                return numbers[set] - 1;
            }
            int bits = marksOf(set);
            int kind = kindWith(bits, set);
            if (kind == OPEN || reached >= MOST_SETS) {
                return OPEN;
            }
            sets[reached] = set;
            marks[reached] = bits;
            kinds[reached] = kind;
            reached++;
            numbers[set] = reached;
            return reached - 1;
        }

        private boolean reachLeaves() {
            for (int s = 0; s < signs.known; s++) {
                if (signs.rankOf(s) == 0) {
                    int to = reach(net.leafImage(s));
                    if (to == OPEN) {
                        return false;
                    }
                    table[signs.cell(s, 0, 0, MOST_CLASSES)] = kinds[to];
                }
            }
            return true;
        }

        /** Whether sets of one kind lead to one kind. Of each kind the first set leads first. */
        private boolean reachAll() {
            for (int i = 0; i < reached && i < MOST_SETS; i++) {
                for (int s = 0; s < signs.known; s++) {
                    int rank = signs.rankOf(s);
                    if (rank == 1 && !agrees(s, i, i, net.imageAlone(s, sets[i]))) {
                        return false;
                    }
                    if (rank == 2) {
                        toFirst.load(net, s, true, sets[i]);
                        toSecond.load(net, s, false, sets[i]);
                    }
                    for (int j = 0; rank == 2 && j <= i; j++) {
                        if (!agrees(s, j, i, toFirst.from(sets[j]))
                                || !agrees(s, i, j, toSecond.from(sets[j]))) {
                            return false;
                        }
                    }
                }
            }
            return true;
        }

        private boolean agrees(int sign, int first, int second, int set) {
            int to = reach(set);
            if (to == OPEN) {
                return false;
            }
            int cell = signs.cell(sign, kinds[first], kinds[second], MOST_CLASSES);
            if (table[cell] == OPEN) {
                table[cell] = kinds[to];
            }
            if (table[cell] == kinds[to]) {
                return true;
            }
            addProbe(sign, first, second, marks[to], kindMarks[table[cell]]);
            return false;
        }

        /**
         * Two sets lead elsewhere than the first sets of their kinds. The new probe tells one of
         * them apart: the first one, if it alone makes the difference, else the second one.
         */
        private void addProbe(int sign, int first, int second, int bits, int dueBits) {
            if (probeCount >= MOST_PROBES || bits == dueBits) {
                return;
            }
            int next = lowestBit(bits ^ dueBits);
            int like = kindSets[kinds[first]];
            Step step = probes[probeCount];
            step.load(net, sign, true, signs.rankOf(sign) == 2 ? sets[second] : NO_PART);
            int changed = marksOf(step.from(like)) ^ bits;
            if ((changed >> next & 1) == 0) {
                step.load(net, sign, false, like);
            }
            nextProbes[probeCount] = next;
            probeCount++;
        }

        private static int lowestBit(int bits) {
            int bit = 0;
            while (bit < MOST_PROBES - 1 && (bits >> bit & 1) == 0) {
                bit++;
            }
            return bit;
        }
    }

    /** Counts the trees of machines, and finds trees by their number and numbers by their tree. */
    private static final class Census {
        private final Signs signs;
        private final Row row;
        /** At each depth: how much a tree of each class counts there. */
        private final long[] weights = new long[(MOST_SIZE + 1) * MOST_CLASSES];
        private long rest = 0;

        Census(Signs signs, Row row) {
            this.signs = signs;
            this.row = row;
        }

        long treesOf(Machine machine, int size) {
            countAll(machine);
            long sum = 0;
            for (int c = 0; c < machine.classCount; c++) {
                if (machine.finalBit(c) == 1) {
                    sum = plus(sum, machine.counts[size * MOST_CLASSES + c]);
                }
            }
            return sum;
        }

        /** The tree that so many others in the tongue are ahead of becomes the row. */
        int writeNumber(Machine machine, long number) {
            long left = number;
            for (int size = 1; size <= MOST_SIZE; size++) {
                long many = treesOf(machine, size);
                if (left < many) {
                    weighFinals(machine);
                    row.length = 0;
                    write(machine, size, 0, left);
                    return row.length;
                }
                left -= many;
            }
            return NONE;
        }

        long aheadOfRow(Machine machine) {
            long sum = 0;
            for (int size = 1; size < row.length; size++) {
                sum = plus(sum, treesOf(machine, size));
            }
            countAll(machine);
            row.readBy(machine);
            weighFinals(machine);
            return plus(sum, ahead(machine, 0, 0));
        }

        private void countAll(Machine machine) {
            if (machine.isCounted) {
                return;
            }
            Arrays.fill(machine.counts, 0);
            for (int size = 1; size <= MOST_SIZE; size++) {
                countSimple(machine, size);
                if (signs.havePairs) {
                    countPairs(machine, size);
                }
            }
            machine.isCounted = true;
        }

        private void countSimple(Machine machine, int size) {
            for (int s = 0; s < signs.known; s++) {
                int rank = signs.rankOf(s);
                if (rank == 0 && size == 1) {
                    add(machine, size, machine.step(s, 0, 0), 1);
                }
                for (int x = 0; rank == 1 && x < machine.classCount; x++) {
                    add(machine, size, machine.step(s, x, 0),
                            machine.counts[(size - 1) * MOST_CLASSES + x]);
                }
            }
        }

        private void countPairs(Machine machine, int size) {
            for (int x = 0; x < machine.classCount; x++) {
                for (int y = 0; y < machine.classCount; y++) {
                    long pairs = pairsOf(machine, x, y, size - 1);
                    for (int s = 0; pairs > 0 && s < signs.known; s++) {
                        if (signs.rankOf(s) == 2) {
                            add(machine, size, machine.step(s, x, y), pairs);
                        }
                    }
                }
            }
        }

        private long pairsOf(Machine machine, int x, int y, int sizes) {
            long sum = 0;
            for (int one = 1; one < sizes; one++) {
                sum = plus(sum, times(machine.counts[one * MOST_CLASSES + x],
                        machine.counts[(sizes - one) * MOST_CLASSES + y]));
            }
            return sum;
        }

        private void add(Machine machine, int size, int c, long more) {
            int cell = size * MOST_CLASSES + c;
            machine.counts[cell] = plus(machine.counts[cell], more);
        }

        private void weighFinals(Machine machine) {
            for (int c = 0; c < machine.classCount; c++) {
                weights[c] = machine.finalBit(c);
            }
        }

        private int leastFirst(int sign, int size) {
            int rank = signs.rankOf(sign);
            return rank == 0 ? 0 : rank == 1 ? size - 1 : 1;
        }

        private int mostFirst(int sign, int size) {
            return signs.rankOf(sign) == 2 ? size - 2 : leastFirst(sign, size);
        }

        /**
         * How much all trees count that have this sign, this size and a first part of that size.
         * One depth below stands then how much a tree of each class counts as that first part.
         */
        private long share(Machine machine, int sign, int size, int firstSize, int depth) {
            int base = depth * MOST_CLASSES;
            if (signs.rankOf(sign) == 0) {
                return size == 1 ? weights[base + machine.step(sign, 0, 0)] : 0;
            }
            int below = base + MOST_CLASSES;
            long sum = 0;
            for (int x = 0; x < machine.classCount; x++) {
                weights[below + x] = signs.rankOf(sign) == 1
                        ? weights[base + machine.step(sign, x, 0)]
                        : seconds(machine, sign, x, size - 1 - firstSize, base);
                sum = plus(sum, times(machine.counts[firstSize * MOST_CLASSES + x],
                        weights[below + x]));
            }
            return sum;
        }

        private long seconds(Machine machine, int sign, int first, int secondSize, int base) {
            long sum = 0;
            for (int y = 0; y < machine.classCount; y++) {
                sum = plus(sum, times(machine.counts[secondSize * MOST_CLASSES + y],
                        weights[base + machine.step(sign, first, y)]));
            }
            return sum;
        }

        private void weighSeconds(Machine machine, int sign, int first, int depth) {
            int base = depth * MOST_CLASSES;
            for (int y = 0; y < machine.classCount; y++) {
                weights[base + MOST_CLASSES + y] = weights[base + machine.step(sign, first, y)];
            }
        }

        /**
         * Writes the tree of this size at which so much has been counted; its class. What is left
         * of the number then says which second part goes with it, where it is a first one.
         */
        private int write(Machine machine, int size, int depth, long number) {
            if (depth >= MOST_SIZE) {
                return 0;
            }
            long left = number;
            for (int s = 0; s < signs.known; s++) {
                for (int one = leastFirst(s, size); one <= mostFirst(s, size); one++) {
                    long share = share(machine, s, size, one, depth);
                    if (left < share) {
                        row.add(s);
                        return writeParts(machine, s, size, one, depth, left);
                    }
                    left -= share;
                }
            }
            return 0;
        }

        private int writeParts(Machine machine, int sign, int size, int firstSize, int depth,
                long number) {
            int rank = signs.rankOf(sign);
            rest = number;
            int first = rank > 0 ? write(machine, firstSize, depth + 1, number) : 0;
            int second = 0;
            if (rank > 1) {
                weighSeconds(machine, sign, first, depth);
                second = write(machine, size - 1 - firstSize, depth + 1, rest);
            }
            return machine.step(sign, first, second);
        }

        /** How much the trees count that are ahead of the one at i in the row and of its size. */
        private long ahead(Machine machine, int i, int depth) {
            if (depth >= MOST_SIZE || i >= row.length) {
                return 0;
            }
            int size = row.spans[i];
            int sign = row.numbers[i];
            int rank = i + 1 < row.length ? signs.rankOf(sign) : 0;
            int firstSize = rank > 0 ? row.spans[i + 1] : 0;
            long sum = 0;
            for (int s = 0; s <= sign; s++) {
                int most = s < sign ? mostFirst(s, size) : firstSize - 1;
                for (int one = leastFirst(s, size); one <= most; one++) {
                    sum = plus(sum, share(machine, s, size, one, depth));
                }
            }
            if (rank > 0) {
                share(machine, sign, size, firstSize, depth);
                sum = plus(sum, ahead(machine, i + 1, depth + 1));
            }
            if (rank > 1) {
                weighSeconds(machine, sign, row.kinds[i + 1], depth);
                sum = plus(sum, ahead(machine, i + 1 + firstSize, depth + 1));
            }
            return sum;
        }

        private static long plus(long x, long y) {
            return Math.min(x + y, MOST_TREES);
        }

        private static long times(long x, long y) {
            if (x == 0 || y == 0) {
                return 0;
            }
            return x > MOST_TREES / y ? MOST_TREES : x * y;
        }
    }
}
