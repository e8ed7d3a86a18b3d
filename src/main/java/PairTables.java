import java.util.Arrays;

/** Kinds of pairs and what may come of two; see README.md. */
public final class PairTables {
    public static final int BAD = -1, STATE = -2, FULL = -3, SPENT = -5, NONE = -9;

    private static final int TOLD = -1;
    private static final int ONCE = 0;
    /** The way FULL; that name is taken by an answer. */
    private static final int CLOSED = 1;
    private static final int TRYING = 2;
    private static final int WAYS = 3;

    private static final int MOST_KINDS = 8;
    private static final int MOST_POINTS = 8;
    private static final int MOST_CARRIERS = 5;
    private static final int MOST_FILLINGS = 20000;
    private static final int MOST_REASONS = 10;
    private static final int MOST_BYTES = 60;
    private static final int MOST_FACTORS = 40;
    private static final int MOST_OPEN = 10;
    private static final int MOST_LAW_BITS = 12;
    private static final int TERMS = 4;

    /** Squares of 8 times 8 numbers: the one at (a, b) stands at 8 a + b. */
    private static final int SQUARE = 64;
    /** Each round or step takes at least one of 28 times 8 kinds away, so that none comes near to this. */
    private static final int MOST_ROUNDS = 1000;
    /** One level for each pair of points, and the one before any is fixed. */
    private static final int LEVELS = 29;

    private final Table table;
    private final Table stored;
    private final Table spare;
    private final Net net;
    private final Narrowing narrowing;
    private final Fillings fill;
    private final Reasons reasons;
    private final Carriers carriers;
    private final Draft draft;
    private final Evaluator evaluator;
    private final Term[] terms;
    private long traced;

    public PairTables() {
        table = new Table();
        stored = new Table();
        spare = new Table();
        table.restart(1);
        net = new Net();
        net.free(3, table.all());
        Spread spread = new Spread(table);
        Search search = new Search(table, spread);
        narrowing = new Narrowing(spread, net);
        fill = new Fillings(search, net);
        reasons = new Reasons(search, net, table);
        carriers = new Carriers(search, table);
        carriers.forget();
        draft = new Draft();
        evaluator = new Evaluator(table);
        terms = new Term[TERMS];
        for (int i = 0; i < TERMS; i++) {
            terms[i] = new Term();
            terms[i].empty();
        }
    }

    // ---- the table

    public int kinds(int k) {
        if (k < 1 || k > MOST_KINDS) {
            return BAD;
        }
        int before = table.size;
        table.restart(k);
        startAnew();
        return before;
    }

    public int turn(int a, int b) {
        if (!isOther(a) || !isOther(b)) {
            return BAD;
        }
        table.makeTurns(a, b);
        net.free(net.size, table.all());
        forgetTable();
        return 1;
    }

    public int triangle(int a, int b, int c, int is) {
        if (!isOther(a) || !isOther(b) || !isOther(c) || !isChoice(is)) {
            return BAD;
        }
        int before = table.mayBe(a, b, c) ? 1 : 0;
        if (before != is) {
            table.setTriangle(a, b, c, is == 1);
            forgetTable();
        }
        return before;
    }

    public int join(int a, int b) {
        if (!table.hasSet(a) || !table.hasSet(b)) {
            return BAD;
        }
        return table.joinSets(a, b);
    }

    public int turned(int set) {
        if (!table.hasSet(set)) {
            return BAD;
        }
        return table.turnSet(set);
    }

    public int fault() {
        return table.firstFault();
    }

    public int fuse(int a, int b) {
        if (!isOther(a) || !isOther(b) || a == b) {
            return BAD;
        }
        if (!table.canFuse(a, b)) {
            return STATE;
        }
        spare.copyFrom(table);
        table.becomeFused(spare, a, b);
        startAnew();
        return table.size;
    }

    public int keep() {
        stored.copyFrom(table);
        return stored.size;
    }

    public int shelf(int what) {
        if (!isChoice(what)) {
            return BAD;
        }
        if (stored.size == 0) {
            return STATE;
        }
        if (what == 0) {
            table.copyFrom(stored);
        } else {
            if (table.size * stored.size > MOST_KINDS) {
                return FULL;
            }
            spare.copyFrom(table);
            table.becomeMadeOfTwo(spare, stored);
        }
        startAnew();
        return table.size;
    }

    // ---- the net

    public int points(int n) {
        if (n < 1 || n > MOST_POINTS) {
            return BAD;
        }
        int before = net.size;
        net.free(n, table.all());
        forgetNet();
        return before;
    }

    public int tell(int i, int j, int set) {
        if (!net.has(i) || !net.has(j) || i == j || !table.hasSet(set)) {
            return BAD;
        }
        int before = net.cells[8 * i + j];
        if (before != set) {
            net.cells[8 * i + j] = set;
            net.cells[8 * j + i] = table.turnSet(set);
            forgetNet();
        }
        return before;
    }

    public int narrow(int way, int i, int j) {
        if (!isWay(way) || !net.has(i) || !net.has(j)) {
            return BAD;
        }
        int[] cells = narrowing.cellsBy(way);
        traced += narrowing.costOf(way);
        return cells[8 * i + j];
    }

    public int isVoid(int way) {
        if (!isWay(way)) {
            return BAD;
        }
        return hasEmpty(narrowing.cellsBy(way), net.size) ? 1 : 0;
    }

    public int fillings(int what) {
        if (!isChoice(what)) {
            return BAD;
        }
        if (what == 1) {
            return fill.areThere() ? 1 : 0;
        }
        int total = fill.howMany();
        return total > MOST_FILLINGS ? SPENT : total;
    }

    public int first(int i, int j) {
        if (!net.has(i) || !net.has(j)) {
            return BAD;
        }
        if (!fill.findLeast()) {
            return NONE;
        }
        return lowest(fill.least[8 * i + j]);
    }

    public int sure(int i, int j) {
        if (!net.has(i) || !net.has(j)) {
            return BAD;
        }
        if (fill.howMany() > MOST_FILLINGS) {
            return SPENT;
        }
        return fill.seen[8 * i + j];
    }

    public int reason(int what) {
        if (!isChoice(what)) {
            return BAD;
        }
        if (!reasons.listPairs()) {
            return STATE;
        }
        int set = reasons.leastSet();
        if (set == NONE) {
            return NONE;
        }
        return what == 0 ? Integer.bitCount(set) : set;
    }

    // ---- terms

    public int type(long v, int n) {
        if (n < 1 || n > 8) {
            return BAD;
        }
        if (draft.length + n > MOST_BYTES) {
            return FULL;
        }
        for (int left = n - 1; left >= 0; left--) {
            draft.add((int) (v >>> 8 * left) & 255);
        }
        return draft.length;
    }

    public int clear() {
        int before = draft.length;
        draft.length = 0;
        return before;
    }

    public int read(int i) {
        if (!isTerm(i)) {
            return BAD;
        }
        int place = draft.firstFault(table.size);
        if (place >= 0) {
            return -10 - place;
        }
        terms[i].takeFrom(draft);
        draft.length = 0;
        return 1;
    }

    public int value(int i, int x, int y, int z) {
        if (!isTerm(i) || !table.hasSet(x) || !table.hasSet(y) || !table.hasSet(z)) {
            return BAD;
        }
        return evaluator.evaluate(terms[i], x, y, z);
    }

    public int against(int i, int j) {
        if (!isTerm(i) || !isTerm(j)) {
            return BAD;
        }
        int letters = terms[i].letters | terms[j].letters;
        if (table.size * Integer.bitCount(letters) > MOST_LAW_BITS) {
            return STATE;
        }
        return evaluator.leastDifference(terms[i], terms[j]);
    }

    // ---- points that carry it

    public int carried(int m, int what) {
        if (m < 1 || m > MOST_CARRIERS || !isChoice(what)) {
            return BAD;
        }
        int rows = carriers.rowsOf(m);
        if (rows > MOST_FILLINGS) {
            return SPENT;
        }
        return what == 0 ? rows : carriers.wholesOf(m);
    }

    public int count(int what) {
        switch (what) {
            case 0:
                return table.size;
            case 1:
                return table.howManyTriangles();
            case 2:
                return net.size;
            case 3:
                return stored.size;
            case 4:
                return draft.length;
            default:
                return BAD;
        }
    }

    public long trace() {
        return traced;
    }

    // ---- what several calls need

    private boolean isOther(int kind) {
        return kind > 0 && kind < table.size;
    }

    private static boolean isChoice(int what) {
        return what == 0 || what == 1;
    }

    private static boolean isWay(int way) {
        return way >= TOLD && way < WAYS;
    }

    private static boolean isTerm(int i) {
        return i >= 0 && i < TERMS;
    }

    /** Other kinds mean another table: what was told and read of the old ones says nothing of it. */
    private void startAnew() {
        net.free(net.size, table.all());
        for (int i = 0; i < TERMS; i++) {
            terms[i].empty();
        }
        forgetTable();
    }

    private void forgetTable() {
        carriers.forget();
        forgetNet();
    }

    private void forgetNet() {
        narrowing.forget();
        fill.forget();
        reasons.forget();
    }

    /** The number of the lowest bit; a set that is empty has none and is not asked for. */
    private static int lowest(int set) {
        return Integer.bitCount((set & -set) - 1);
    }

    private static boolean hasEmpty(int[] cells, int size) {
        for (int i = 0; i < size; i++) {
            for (int k = i + 1; k < size; k++) {
                if (cells[8 * i + k] == 0) {
                    return true;
                }
            }
        }
        return false;
    }

    /** The bit of a pair in a long: that of its square, the lower point first. */
    private static long pairBit(int i, int k) {
        return 1L << (i < k ? 8 * i + k : 8 * k + i);
    }

    /** Kinds, their turns, and which triangles may be. A table without kinds stands for an empty shelf. */
    private static final class Table {
        int size;
        final int[] turns = new int[MOST_KINDS];
        /** At 8 a + b: the set of all c with (a, b, c) that may be. */
        final int[] triangles = new int[SQUARE];
        final int[] turnedSets = new int[1 << MOST_KINDS];
        /** Joins of half sets (kinds 0 to 3, or 4 to 7), so that a join of sets takes four looks. */
        final int[] halfJoins = new int[4 * 256];
        /** The new number of each old kind, while two become one. */
        private final int[] names = new int[MOST_KINDS];

        int all() {
            return (1 << size) - 1;
        }

        boolean hasSet(int set) {
            return set >= 0 && set <= all();
        }

        void restart(int k) {
            size = k;
            for (int a = 0; a < MOST_KINDS; a++) {
                turns[a] = a;
            }
            freeTriangles();
        }

        void makeTurns(int a, int b) {
            int formerA = turns[a];
            int formerB = turns[b];
            turns[formerA] = formerA;
            turns[formerB] = formerB;
            turns[a] = b;
            turns[b] = a;
            freeTriangles();
        }

        private void freeTriangles() {
            int others = all() & ~1;
            Arrays.fill(triangles, 0);
            for (int a = 0; a < size; a++) {
                triangles[a] = 1 << a;
                triangles[8 * a] = 1 << a;
                for (int b = 1; b < size && a > 0; b++) {
                    triangles[8 * a + b] = turns[a] == b ? others | 1 : others;
                }
            }
            prepare();
        }

        boolean mayBe(int a, int b, int c) {
            return (triangles[8 * a + b] >> c & 1) == 1;
        }

        void setTriangle(int a, int b, int c, boolean is) {
            int ta = turns[a];
            int tb = turns[b];
            int tc = turns[c];
            setOne(a, b, c, is);
            setOne(c, tb, a, is);
            setOne(ta, c, b, is);
            setOne(b, tc, ta, is);
            setOne(tc, a, tb, is);
            setOne(tb, ta, tc, is);
            prepare();
        }

        private void setOne(int a, int b, int c, boolean is) {
            if (is) {
                triangles[8 * a + b] |= 1 << c;
            } else {
                triangles[8 * a + b] &= ~(1 << c);
            }
        }

        private void prepare() {
            for (int set = 1; set <= all(); set++) {
                turnedSets[set] = turnedSets[set & set - 1] | 1 << turns[lowest(set)];
            }
            int halves = size > 4 ? 2 : 1;
            for (int left = 0; left < halves; left++) {
                for (int right = 0; right < halves; right++) {
                    prepareHalves(left, right);
                }
            }
        }

        private void prepareHalves(int leftHalf, int rightHalf) {
            int base = 512 * leftHalf + 256 * rightHalf;
            for (int left = 1; left < 16; left++) {
                for (int right = 1; right < 16; right++) {
                    int leftRest = left & left - 1;
                    int rightRest = right & right - 1;
                    int sum;
                    if (leftRest != 0) {
                        sum = halfJoins[base + 16 * leftRest + right] | halfJoins[base + 16 * (left - leftRest) + right];
                    } else if (rightRest != 0) {
                        sum = halfJoins[base + 16 * left + rightRest] | halfJoins[base + 16 * left + right - rightRest];
                    } else {
                        sum = triangles[8 * (4 * leftHalf + lowest(left)) + 4 * rightHalf + lowest(right)];
                    }
                    halfJoins[base + 16 * left + right] = sum;
                }
            }
        }

        int turnSet(int set) {
            return turnedSets[set & 255];
        }

        int joinSets(int a, int b) {
            int lowA = (a & 15) << 4;
            int highA = a & 240;
            int lowB = b & 15;
            int highB = b >> 4 & 15;
            return halfJoins[lowA | lowB] | halfJoins[256 | lowA | highB]
                | halfJoins[512 | highA | lowB] | halfJoins[768 | highA | highB];
        }

        int firstFault() {
            for (int a = 0; a < size; a++) {
                for (int b = 0; b < size; b++) {
                    for (int c = 0; c < size; c++) {
                        int fromLeft = joinSets(triangles[8 * a + b], 1 << c);
                        int fromRight = joinSets(1 << a, triangles[8 * b + c]);
                        if (fromLeft != fromRight) {
                            return 64 * a + 8 * b + c;
                        }
                    }
                }
            }
            return NONE;
        }

        int howManyTriangles() {
            int sum = 0;
            for (int place = 0; place < SQUARE; place++) {
                sum += Integer.bitCount(triangles[place]);
            }
            return sum;
        }

        void copyFrom(Table other) {
            size = other.size;
            System.arraycopy(other.turns, 0, turns, 0, MOST_KINDS);
            System.arraycopy(other.triangles, 0, triangles, 0, SQUARE);
            prepare();
        }

        boolean canFuse(int a, int b) {
            return (turns[a] == a) == (turns[b] == b) && turns[a] != b;
        }

        void becomeFused(Table old, int a, int b) {
            int gone = Math.max(a, b);
            int goneTurn = Math.max(old.turns[a], old.turns[b]);
            size = 0;
            for (int kind = 0; kind < old.size; kind++) {
                if (kind != gone && kind != goneTurn) {
                    names[kind] = size;
                    size++;
                }
            }
            names[gone] = names[Math.min(a, b)];
            names[goneTurn] = names[Math.min(old.turns[a], old.turns[b])];
            Arrays.fill(triangles, 0);
            for (int p = 0; p < old.size; p++) {
                turns[names[p]] = names[old.turns[p]];
                for (int q = 0; q < old.size; q++) {
                    triangles[8 * names[p] + names[q]] |= renamed(old.triangles[8 * p + q]);
                }
            }
            prepare();
        }

        private int renamed(int set) {
            int sum = 0;
            for (int kind = 0; kind < MOST_KINDS; kind++) {
                if ((set >> kind & 1) == 1) {
                    sum |= 1 << names[kind];
                }
            }
            return sum;
        }

        /** The caller sees to it that there are no more than MOST_KINDS pairs of kinds. */
        void becomeMadeOfTwo(Table one, Table two) {
            int k = one.size;
            size = k * two.size;
            Arrays.fill(triangles, 0);
            for (int s = 0; s < two.size; s++) {
                for (int p = 0; p < k; p++) {
                    turns[p + k * s] = one.turns[p] + k * two.turns[s];
                    for (int t = 0; t < two.size; t++) {
                        for (int q = 0; q < k; q++) {
                            triangles[8 * (p + k * s) + q + k * t] =
                                paired(one.triangles[8 * p + q], two.triangles[8 * s + t], k);
                        }
                    }
                }
            }
            prepare();
        }

        private static int paired(int set, int other, int k) {
            int sum = 0;
            for (int kind = 0; kind < MOST_KINDS; kind++) {
                if ((other >> kind & 1) == 1) {
                    sum |= set << k * kind;
                }
            }
            return sum;
        }
    }

    /** Points, and the set that is told of each two, both ways round. */
    private static final class Net {
        int size;
        final int[] cells = new int[SQUARE];

        void free(int n, int all) {
            size = n;
            for (int i = 0; i < MOST_POINTS; i++) {
                for (int j = 0; j < MOST_POINTS; j++) {
                    cells[8 * i + j] = i == j ? 1 : all;
                }
            }
        }

        boolean has(int point) {
            return point >= 0 && point < size;
        }
    }

    /** Narrowing three by three, on squares of sets. */
    private static final class Spread {
        private static final int UNCHANGED = -1;
        final Table table;

        Spread(Table table) {
            this.table = table;
        }

        /** The set of i to k as it is left over by j, or UNCHANGED. */
        int pass(int[] cells, int i, int j, int k) {
            int before = cells[8 * i + k];
            int after = before & table.joinSets(cells[8 * i + j], cells[8 * j + k]);
            if (after == before) {
                return UNCHANGED;
            }
            cells[8 * i + k] = after;
            cells[8 * k + i] = table.turnSet(after);
            return after;
        }

        /**
         * Whether no set is empty in the end. Where it ends does not hang on the order,
         * so only pairs that have changed are looked at again.
         */
        boolean settles(int[] cells, int size, long changed) {
            long todo = changed;
            for (int step = 0; todo != 0 && step < MOST_ROUNDS; step++) {
                int cell = Long.bitCount((todo & -todo) - 1);
                todo &= todo - 1;
                int i = cell >> 3;
                int k = cell & 7;
                for (int m = 0; m < size; m++) {
                    if (m == i || m == k) {
                        continue;
                    }
                    int one = pass(cells, i, k, m);
                    int other = pass(cells, k, i, m);
                    if (one == 0 || other == 0) {
                        return false;
                    }
                    if (one > 0) {
                        todo |= pairBit(i, m);
                    }
                    if (other > 0) {
                        todo |= pairBit(k, m);
                    }
                }
            }
            return true;
        }

        void makeSingle(int[] cells, int cell, int kind) {
            int back = 8 * (cell & 7) + (cell >> 3);
            cells[cell] = 1 << kind;
            cells[back] = table.turnSet(1 << kind);
        }
    }

    /** The net by each way. What a way leaves and adds to the trace is kept till the net changes. */
    private static final class Narrowing {
        final Spread spread;
        final Net net;
        final int[][] cells = new int[WAYS][SQUARE];
        final int[] costs = new int[WAYS];
        final boolean[] known = new boolean[WAYS];
        final int[] before = new int[SQUARE];
        final int[] trial = new int[SQUARE];

        Narrowing(Spread spread, Net net) {
            this.spread = spread;
            this.net = net;
        }

        void forget() {
            for (int way = 0; way < WAYS; way++) {
                known[way] = false;
            }
        }

        int costOf(int way) {
            return way == TOLD ? 0 : costs[way];
        }

        int[] cellsBy(int way) {
            if (way == TOLD) {
                return net.cells;
            }
            int[] own = cells[way];
            if (!known[way]) {
                System.arraycopy(net.cells, 0, own, 0, SQUARE);
                costs[way] = way == ONCE ? once(own) : way == CLOSED ? full(own) : trying(own);
                known[way] = true;
            }
            return own;
        }

        private int once(int[] own) {
            int size = net.size;
            if (hasEmpty(own, size)) {
                return 1;
            }
            for (int i = 0; i < size; i++) {
                for (int j = 0; j < size; j++) {
                    for (int k = i + 1; k < size; k++) {
                        if (j != i && j != k && spread.pass(own, i, j, k) == 0) {
                            return 1;
                        }
                    }
                }
            }
            return 1;
        }

        private int full(int[] own) {
            int cost = 10;
            boolean more = !hasEmpty(own, net.size);
            for (int round = 0; more && round < MOST_ROUNDS; round++) {
                System.arraycopy(own, 0, before, 0, SQUARE);
                cost += once(own);
                more = !hasEmpty(own, net.size) && differs(own);
            }
            return cost;
        }

        private boolean differs(int[] own) {
            for (int place = 0; place < SQUARE; place++) {
                if (own[place] != before[place]) {
                    return true;
                }
            }
            return false;
        }

        private int trying(int[] own) {
            int cost = 100;
            boolean more = !hasEmpty(own, net.size);
            for (int round = 0; more && round < MOST_ROUNDS; round++) {
                cost += full(own);
                more = !hasEmpty(own, net.size) && someGo(own) && !hasEmpty(own, net.size);
            }
            return cost;
        }

        /** Whether a kind went; those that went are not spread here, but each trial must look at them. */
        private boolean someGo(int[] own) {
            long changed = 0;
            for (int i = 0; i < net.size; i++) {
                for (int k = i + 1; k < net.size; k++) {
                    for (int kind = 0; kind < MOST_KINDS; kind++) {
                        int cell = 8 * i + k;
                        if ((own[cell] >> kind & 1) == 0 || stays(own, cell, kind, changed)) {
                            continue;
                        }
                        own[cell] &= ~(1 << kind);
                        own[8 * k + i] = spread.table.turnSet(own[cell]);
                        changed |= pairBit(i, k);
                        if (own[cell] == 0) {
                            return true;
                        }
                    }
                }
            }
            return changed != 0;
        }

        private boolean stays(int[] own, int cell, int kind, long changed) {
            System.arraycopy(own, 0, trial, 0, SQUARE);
            spread.makeSingle(trial, cell, kind);
            return spread.settles(trial, net.size, changed | 1L << cell);
        }
    }

    /** Goes through the fillings of a square of sets: pair by pair, the one with the fewest kinds first. */
    private static final class Search {
        final Table table;
        final Spread spread;
        final int[][] levels = new int[LEVELS][SQUARE];
        /** What each pair had in some filling. */
        final int[] seen = new int[SQUARE];
        final int[] last = new int[SQUARE];
        /** At c, for whole rows: the bits 8 a + b with (a, b, c) that may be, without SAME. */
        final long[] between = new long[MOST_KINDS];
        int size;
        int total;
        int wholes;
        private int enough;
        private boolean oneByOne;

        Search(Table table, Spread spread) {
            this.table = table;
            this.spread = spread;
        }

        /**
         * How many fillings there are; where they are more than the limit, or as many, some number that is so too.
         * If the limit is 1, the one that is found is in last. One by one, those that are whole rows are counted, too.
         */
        int run(int[] cells, int points, int limit, boolean isOneByOne) {
            size = points;
            total = 0;
            wholes = 0;
            enough = limit;
            oneByOne = isOneByOne;
            if (oneByOne) {
                listBetween();
            }
            Arrays.fill(seen, 0);
            System.arraycopy(cells, 0, levels[0], 0, SQUARE);
            if (!hasEmpty(levels[0], size) && spread.settles(levels[0], size, pairsNotAll())) {
                goOn(this, 0);
            }
            return total;
        }

        private void listBetween() {
            for (int c = 0; c < MOST_KINDS; c++) {
                between[c] = 0;
                for (int a = 1; a < table.size; a++) {
                    for (int b = 1; b < table.size; b++) {
                        if (table.mayBe(a, b, c)) {
                            between[c] |= 1L << 8 * a + b;
                        }
                    }
                }
            }
        }

        /** Where all kinds are free, nothing can spread from. */
        private long pairsNotAll() {
            long pairs = 0;
            for (int i = 0; i < size; i++) {
                for (int k = i + 1; k < size; k++) {
                    if (levels[0][8 * i + k] != table.all()) {
                        pairs |= pairBit(i, k);
                    }
                }
            }
            return pairs;
        }

        /** Whether enough have been found. */
        private static boolean goOn(Search search, int depth) {
            int[] cells = search.levels[depth];
            int cell = search.narrowestOpen(cells);
            if (cell < 0 || depth + 1 >= LEVELS) {
                search.takeBox(cells);
                if (search.enough == 1) {
                    search.takeLowest(cells);
                }
                if (search.oneByOne && search.isWhole(cells)) {
                    search.wholes++;
                }
                return search.total >= search.enough;
            }
            int[] next = search.levels[depth + 1];
            for (int kind = 0; kind < MOST_KINDS; kind++) {
                if ((cells[cell] >> kind & 1) == 0) {
                    continue;
                }
                System.arraycopy(cells, 0, next, 0, SQUARE);
                search.spread.makeSingle(next, cell, kind);
                if (search.spread.settles(next, search.size, 1L << cell) && goOn(search, depth + 1)) {
                    return true;
                }
            }
            return false;
        }

        /**
         * The open pair (with more than one kind) that has the fewest kinds; -1, if none has to be tried.
         * Where no triangle has two open pairs, each choice of their kinds makes a filling: such pairs may stay open.
         */
        private int narrowestOpen(int[] cells) {
            int tried = pointsToTry(cells);
            int best = -1;
            int fewest = MOST_KINDS + 1;
            for (int i = 0; i < size && tried != 0; i++) {
                for (int k = i + 1; k < size; k++) {
                    int many = Integer.bitCount(cells[8 * i + k]);
                    if (many > 1 && many < fewest && ((1 << i | 1 << k) & tried) != 0) {
                        best = 8 * i + k;
                        fewest = many;
                    }
                }
            }
            return best;
        }

        /** The points of two open pairs at least; one by one: of any. */
        private int pointsToTry(int[] cells) {
            int open = 0;
            int twiceOpen = 0;
            for (int i = 0; i < size; i++) {
                for (int k = i + 1; k < size; k++) {
                    int set = cells[8 * i + k];
                    if ((set & set - 1) != 0) {
                        int both = 1 << i | 1 << k;
                        twiceOpen |= open & both;
                        open |= both;
                    }
                }
            }
            return oneByOne ? open : twiceOpen;
        }

        private void takeBox(int[] cells) {
            int product = 1;
            for (int i = 0; i < size; i++) {
                seen[9 * i] = 1;
                for (int k = i + 1; k < size; k++) {
                    int set = cells[8 * i + k];
                    product *= Integer.bitCount(set);
                    seen[8 * i + k] |= set;
                    seen[8 * k + i] |= cells[8 * k + i];
                }
            }
            total += product;
        }

        private void takeLowest(int[] cells) {
            System.arraycopy(cells, 0, last, 0, SQUARE);
            for (int i = 0; i < size; i++) {
                for (int k = i + 1; k < size; k++) {
                    spread.makeSingle(last, 8 * i + k, lowest(cells[8 * i + k]));
                }
            }
        }

        private boolean isWhole(int[] cells) {
            int come = 1;
            for (int i = 0; i < size; i++) {
                for (int k = i + 1; k < size; k++) {
                    come |= cells[8 * i + k] | cells[8 * k + i];
                    long there = 0;
                    for (int m = 0; m < size; m++) {
                        if (m != i && m != k) {
                            there |= 1L << 8 * lowest(cells[8 * i + m]) + lowest(cells[8 * m + k]);
                        }
                    }
                    if (there != between[lowest(cells[8 * i + k]) & 7]) {
                        return false;
                    }
                }
            }
            return come == table.all();
        }
    }

    /** The fillings of the net, kept till it changes. */
    private static final class Fillings {
        final Search search;
        final Net net;
        final int[] seen = new int[SQUARE];
        final int[] least = new int[SQUARE];
        final int[] fixed = new int[SQUARE];
        int total;
        private boolean isCounted;
        private boolean isThere;
        private boolean isAsked;
        private boolean isLeast;

        Fillings(Search search, Net net) {
            this.search = search;
            this.net = net;
        }

        void forget() {
            isCounted = false;
            isAsked = false;
            isLeast = false;
        }

        int howMany() {
            if (!isCounted) {
                total = search.run(net.cells, net.size, MOST_FILLINGS + 1, false);
                System.arraycopy(search.seen, 0, seen, 0, SQUARE);
                isCounted = true;
            }
            return total;
        }

        /** Some filling, if there is one, is kept in least to begin with. */
        boolean areThere() {
            if (!isAsked) {
                isThere = search.run(net.cells, net.size, 1, false) > 0;
                System.arraycopy(search.last, 0, least, 0, SQUARE);
                isAsked = true;
            }
            return isThere;
        }

        /** Whether there is one; the first is in least then. */
        boolean findLeast() {
            if (areThere() && !isLeast) {
                System.arraycopy(net.cells, 0, fixed, 0, SQUARE);
                for (int i = 0; i < net.size; i++) {
                    for (int k = i + 1; k < net.size; k++) {
                        fixLeast(8 * i + k);
                    }
                }
                isLeast = true;
            }
            return isThere;
        }

        /** The filling at hand shows that its kind can be; only lower ones have to be tried. */
        private void fixLeast(int cell) {
            int told = fixed[cell];
            int known = lowest(least[cell]);
            boolean isFound = false;
            for (int kind = 0; kind < known && !isFound; kind++) {
                if ((told >> kind & 1) == 1) {
                    search.spread.makeSingle(fixed, cell, kind);
                    isFound = search.run(fixed, net.size, 1, false) > 0;
                }
            }
            if (isFound) {
                System.arraycopy(search.last, 0, least, 0, SQUARE);
            }
            search.spread.makeSingle(fixed, cell, lowest(least[cell]));
        }
    }

    /** The fewest told pairs that cannot be, kept till the net changes. */
    private static final class Reasons {
        final Search search;
        final Net net;
        final Table table;
        final int[] pairs = new int[MOST_REASONS];
        final int[] trial = new int[SQUARE];
        /** Sets of pairs that one filling has as they are told: so has it any set that is within. */
        final int[] granted = new int[1 << MOST_REASONS];
        int howManyPairs;
        int howManyGranted;
        int answer;
        boolean isKnown;

        Reasons(Search search, Net net, Table table) {
            this.search = search;
            this.net = net;
            this.table = table;
        }

        void forget() {
            isKnown = false;
        }

        /** Whether the pairs for which not all kinds are told are few enough. */
        boolean listPairs() {
            howManyPairs = 0;
            for (int i = 0; i < net.size; i++) {
                for (int k = i + 1; k < net.size; k++) {
                    if (net.cells[8 * i + k] != table.all()) {
                        if (howManyPairs >= MOST_REASONS) {
                            return false;
                        }
                        pairs[howManyPairs] = 8 * i + k;
                        howManyPairs++;
                    }
                }
            }
            return true;
        }

        int leastSet() {
            if (isKnown) {
                return answer;
            }
            isKnown = true;
            howManyGranted = 0;
            int every = (1 << howManyPairs) - 1;
            answer = canBe(every) ? NONE : every;
            for (int many = 1; many < howManyPairs && answer == every; many++) {
                for (int set = 1; set < every && answer == every; set++) {
                    if (Integer.bitCount(set) == many && !isGranted(set) && !canBe(set)) {
                        answer = set;
                    }
                }
            }
            return answer;
        }

        private boolean isGranted(int set) {
            for (int at = 0; at < howManyGranted; at++) {
                if ((set & ~granted[at]) == 0) {
                    return true;
                }
            }
            return false;
        }

        private boolean canBe(int set) {
            int all = table.all();
            for (int place = 0; place < SQUARE; place++) {
                trial[place] = (place >> 3) == (place & 7) ? 1 : all;
            }
            for (int at = 0; at < howManyPairs; at++) {
                if ((set >> at & 1) == 1) {
                    int cell = pairs[at];
                    int back = 8 * (cell & 7) + (cell >> 3);
                    trial[cell] = net.cells[cell];
                    trial[back] = net.cells[back];
                }
            }
            boolean isFound = search.run(trial, net.size, 1, false) > 0;
            if (isFound && howManyGranted < granted.length) {
                granted[howManyGranted] = pairsAsTold(search.last);
                howManyGranted++;
            }
            return isFound;
        }

        private int pairsAsTold(int[] filling) {
            int set = 0;
            for (int at = 0; at < howManyPairs; at++) {
                if ((filling[pairs[at]] & net.cells[pairs[at]]) != 0) {
                    set |= 1 << at;
                }
            }
            return set;
        }
    }

    /** Rows of a few points that carry the table: at m, those of m points; UNKNOWN, if not asked since it changed. */
    private static final class Carriers {
        private static final int UNKNOWN = -1;
        final Search search;
        final Table table;
        final int[] start = new int[SQUARE];
        final int[] rows = new int[MOST_CARRIERS + 1];
        final int[] wholes = new int[MOST_CARRIERS + 1];

        Carriers(Search search, Table table) {
            this.search = search;
            this.table = table;
        }

        void forget() {
            Arrays.fill(rows, UNKNOWN);
            Arrays.fill(wholes, UNKNOWN);
        }

        int rowsOf(int m) {
            if (rows[m] == UNKNOWN) {
                restart();
                rows[m] = search.run(start, m, MOST_FILLINGS + 1, false);
            }
            return rows[m];
        }

        int wholesOf(int m) {
            if (wholes[m] == UNKNOWN) {
                restart();
                search.run(start, m, MOST_FILLINGS + 1, true);
                wholes[m] = search.wholes;
            }
            return wholes[m];
        }

        private void restart() {
            int others = table.all() & ~1;
            for (int place = 0; place < SQUARE; place++) {
                start[place] = (place >> 3) == (place & 7) ? 1 : others;
            }
        }
    }

    /** A term, its signs after what they stand for. */
    private static final class Term {
        final int[] code = new int[MOST_BYTES];
        int length;
        /** Bits 0, 1 and 2: x, y and z stand in it. */
        int letters;

        void empty() {
            code[0] = '0';
            length = 1;
            letters = 0;
        }

        void takeFrom(Draft draft) {
            System.arraycopy(draft.code, 0, code, 0, MOST_BYTES);
            length = draft.codeLength;
            letters = draft.letters;
        }
    }

    /** Bytes that are typed, but not yet a term, and what reading makes of them. */
    private static final class Draft {
        private static final int WEAKEST = 1;

        final int[] bytes = new int[MOST_BYTES];
        int length;
        /** The signs after what they stand for. */
        final int[] code = new int[MOST_BYTES];
        int codeLength;
        int letters;
        /** Signs and brackets whose right side is not read yet. */
        private final int[] waiting = new int[MOST_BYTES];
        private int howManyWait;
        private int factors;
        private int open;
        private boolean isFactorRead;

        void add(int one) {
            if (length < MOST_BYTES) {
                bytes[length] = one;
                length++;
            }
        }

        /** The place of the first byte that can't stand there, or where the text ends too early, or NONE. */
        int firstFault(int kinds) {
            codeLength = 0;
            letters = 0;
            howManyWait = 0;
            factors = 0;
            open = 0;
            isFactorRead = false;
            for (int place = 0; place < length && place < MOST_BYTES; place++) {
                int one = bytes[place];
                boolean stands = isFactorRead ? standsAfter(one) : standsAsFactor(one, kinds);
                if (!stands) {
                    return place;
                }
            }
            if (!isFactorRead || open > 0) {
                return length;
            }
            writeWaiting(WEAKEST);
            return NONE;
        }

        private boolean standsAsFactor(int one, int kinds) {
            if (factors >= MOST_FACTORS) {
                return false;
            }
            factors++;
            if (one == '-' || one == '~') {
                return waits(one);
            }
            if (one == '(') {
                open++;
                return open <= MOST_OPEN && waits(one);
            }
            boolean isKind = one >= 'a' && one < 'a' + kinds;
            boolean isLetter = one >= 'x' && one <= 'z';
            if (!isKind && !isLetter && one != '0' && one != '1') {
                return false;
            }
            if (isLetter) {
                letters |= 1 << one - 'x';
            }
            write(one);
            isFactorRead = true;
            return true;
        }

        private boolean standsAfter(int one) {
            if (one == ')' && open > 0) {
                writeWaiting(WEAKEST);
                howManyWait--;
                open--;
                return true;
            }
            if (one != '+' && one != '&' && one != ';') {
                return false;
            }
            writeWaiting(strength(one));
            isFactorRead = false;
            return waits(one);
        }

        private boolean waits(int one) {
            if (howManyWait >= MOST_BYTES) {
                return false;
            }
            waiting[howManyWait] = one;
            howManyWait++;
            return true;
        }

        /** Writes those that bind at least so strongly; a bracket binds less than any. */
        private void writeWaiting(int least) {
            while (howManyWait > 0 && strength(waiting[howManyWait - 1]) >= least) {
                howManyWait--;
                write(waiting[howManyWait]);
            }
        }

        private void write(int one) {
            if (codeLength < MOST_BYTES) {
                code[codeLength] = one;
                codeLength++;
            }
        }

        private static int strength(int one) {
            switch (one) {
                case '(':
                    return 0;
                case '+':
                    return WEAKEST;
                case '&':
                    return 2;
                case ';':
                    return 3;
                default:
                    return 4;
            }
        }
    }

    /** Values of terms by a table. */
    private static final class Evaluator {
        final Table table;
        final int[] stack = new int[MOST_BYTES];

        Evaluator(Table table) {
            this.table = table;
        }

        int evaluate(Term term, int x, int y, int z) {
            int height = 0;
            for (int place = 0; place < term.length && place < MOST_BYTES; place++) {
                int one = term.code[place];
                if (one == '-' || one == '~') {
                    if (height > 0) {
                        int set = stack[height - 1];
                        stack[height - 1] = one == '-' ? table.all() & ~set : table.turnSet(set);
                    }
                } else if (one == '+' || one == '&' || one == ';') {
                    if (height > 1) {
                        height--;
                        stack[height - 1] = combined(one, stack[height - 1], stack[height]);
                    }
                } else if (height < MOST_BYTES) {
                    stack[height] = leaf(one, x, y, z);
                    height++;
                }
            }
            return height > 0 ? stack[0] : 0;
        }

        private int combined(int sign, int left, int right) {
            if (sign == ';') {
                return table.joinSets(left, right);
            }
            return sign == '+' ? left | right : left & right;
        }

        private int leaf(int one, int x, int y, int z) {
            switch (one) {
                case '0':
                    return 0;
                case '1':
                    return table.all();
                case 'x':
                    return x;
                case 'y':
                    return y;
                case 'z':
                    return z;
                default:
                    return 1 << (one - 'a' & 7);
            }
        }

        int leastDifference(Term one, Term other) {
            int letters = one.letters | other.letters;
            int all = table.all();
            int lastX = (letters & 1) != 0 ? all : 0;
            int lastY = (letters & 2) != 0 ? all : 0;
            int lastZ = (letters & 4) != 0 ? all : 0;
            for (int z = 0; z <= lastZ; z++) {
                for (int y = 0; y <= lastY; y++) {
                    for (int x = 0; x <= lastX; x++) {
                        if (evaluate(one, x, y, z) != evaluate(other, x, y, z)) {
                            return x | y << table.size | z << 2 * table.size;
                        }
                    }
                }
            }
            return NONE;
        }
    }
}
