import java.util.ArrayList;
import java.util.Arrays;
import java.util.List;

/**
 * The document's words, done one by one and without any haste, to hold PairTables against.
 * Where a search would take too long it answers UNKNOWN.
 */
final class Model {
    static final long UNKNOWN = Long.MIN_VALUE;
    private static final int BUDGET = 400_000;

    private int k = 1;
    private int[] turn = {0, 1, 2, 3, 4, 5, 6, 7};
    private boolean[][][] may = new boolean[8][8][8];
    private int shelfK = 0;
    private int[] shelfTurn;
    private boolean[][][] shelfMay;
    private int n = 3;
    private int[][] told = new int[8][8];
    private long trace = 0;
    private final List<Integer> draft = new ArrayList<>();
    private final String[] terms = {"0", "0", "0", "0"};
    private int steps;

    Model() {
        fresh();
        free();
    }

    // ---- table

    private void fresh() {
        may = new boolean[8][8][8];
        for (int a = 0; a < k; a++) {
            for (int b = 0; b < k; b++) {
                for (int c = 0; c < k; c++) {
                    if (a == 0) {
                        may[a][b][c] = b == c;
                    } else if (b == 0) {
                        may[a][b][c] = a == c;
                    } else if (c == 0) {
                        may[a][b][c] = b == turn[a];
                    } else {
                        may[a][b][c] = true;
                    }
                }
            }
        }
    }

    private void free() {
        for (int i = 0; i < 8; i++) {
            for (int j = 0; j < 8; j++) {
                told[i][j] = i == j ? 1 : all();
            }
        }
    }

    private void anew() {
        free();
        Arrays.fill(terms, "0");
    }

    private int all() {
        return (1 << k) - 1;
    }

    private boolean kind(int a) {
        return a >= 1 && a < k;
    }

    private boolean set(int s) {
        return s >= 0 && s <= all();
    }

    long kinds(int count) {
        if (count < 1 || count > 8) {
            return -1;
        }
        int was = k;
        k = count;
        turn = new int[] {0, 1, 2, 3, 4, 5, 6, 7};
        fresh();
        anew();
        return was;
    }

    long turn(int a, int b) {
        if (!kind(a) || !kind(b)) {
            return -1;
        }
        for (int c = 1; c < k; c++) {
            if (turn[c] == a || turn[c] == b) {
                turn[c] = c;
            }
        }
        turn[a] = b;
        turn[b] = a;
        fresh();
        free();
        return 1;
    }

    long triangle(int a, int b, int c, int is) {
        if (!kind(a) || !kind(b) || !kind(c) || is < 0 || is > 1) {
            return -1;
        }
        long was = may[a][b][c] ? 1 : 0;
        // three points with a, b, c between them, seen in all orders
        int[][] between = {{0, a, c}, {turn[a], 0, b}, {turn[c], turn[b], 0}};
        for (int p = 0; p < 3; p++) {
            for (int q = 0; q < 3; q++) {
                int r = 3 - p - q;
                if (p != q) {
                    may[between[p][q]][between[q][r]][between[p][r]] = is == 1;
                }
            }
        }
        return was;
    }

    private int joinOf(int a, int b) {
        int s = 0;
        for (int p = 0; p < k; p++) {
            for (int q = 0; q < k; q++) {
                for (int c = 0; c < k; c++) {
                    if ((a >> p & 1) == 1 && (b >> q & 1) == 1 && may[p][q][c]) {
                        s |= 1 << c;
                    }
                }
            }
        }
        return s;
    }

    private int turnOf(int s) {
        int t = 0;
        for (int a = 0; a < k; a++) {
            if ((s >> a & 1) == 1) {
                t |= 1 << turn[a];
            }
        }
        return t;
    }

    long join(int a, int b) {
        return set(a) && set(b) ? joinOf(a, b) : -1;
    }

    long turned(int s) {
        return set(s) ? turnOf(s) : -1;
    }

    long fault() {
        for (int a = 0; a < k; a++) {
            for (int b = 0; b < k; b++) {
                for (int c = 0; c < k; c++) {
                    if (joinOf(joinOf(1 << a, 1 << b), 1 << c) != joinOf(1 << a, joinOf(1 << b, 1 << c))) {
                        return 64 * a + 8 * b + c;
                    }
                }
            }
        }
        return -9;
    }

    long fuse(int a, int b) {
        if (!kind(a) || !kind(b) || a == b) {
            return -1;
        }
        if ((turn[a] == a) != (turn[b] == b) || turn[a] == b) {
            return -2;
        }
        int[] least = new int[8];
        for (int c = 0; c < k; c++) {
            least[c] = c;
            if (c == a || c == b) {
                least[c] = Math.min(a, b);
            } else if (c == turn[a] || c == turn[b]) {
                least[c] = Math.min(turn[a], turn[b]);
            }
        }
        int[] name = new int[8];
        int count = 0;
        for (int c = 0; c < k; c++) {
            name[c] = least[c] == c ? count++ : name[least[c]];
        }
        boolean[][][] newMay = new boolean[8][8][8];
        int[] newTurn = {0, 1, 2, 3, 4, 5, 6, 7};
        for (int p = 0; p < k; p++) {
            newTurn[name[p]] = name[turn[p]];
            for (int q = 0; q < k; q++) {
                for (int r = 0; r < k; r++) {
                    newMay[name[p]][name[q]][name[r]] |= may[p][q][r];
                }
            }
        }
        k = count;
        may = newMay;
        turn = newTurn;
        anew();
        return k;
    }

    private static boolean[][][] copy(boolean[][][] from) {
        boolean[][][] to = new boolean[8][8][];
        for (int a = 0; a < 8; a++) {
            for (int b = 0; b < 8; b++) {
                to[a][b] = from[a][b].clone();
            }
        }
        return to;
    }

    long keep() {
        shelfK = k;
        shelfTurn = turn.clone();
        shelfMay = copy(may);
        return k;
    }

    long shelf(int what) {
        if (what < 0 || what > 1) {
            return -1;
        }
        if (shelfK == 0) {
            return -2;
        }
        if (what == 1 && k * shelfK > 8) {
            return -3;
        }
        if (what == 0) {
            k = shelfK;
            turn = shelfTurn.clone();
            may = copy(shelfMay);
        } else {
            int[] newTurn = {0, 1, 2, 3, 4, 5, 6, 7};
            boolean[][][] newMay = new boolean[8][8][8];
            int both = k * shelfK;
            for (int a = 0; a < both; a++) {
                newTurn[a] = turn[a % k] + k * shelfTurn[a / k];
                for (int b = 0; b < both; b++) {
                    for (int c = 0; c < both; c++) {
                        newMay[a][b][c] = may[a % k][b % k][c % k] && shelfMay[a / k][b / k][c / k];
                    }
                }
            }
            k = both;
            turn = newTurn;
            may = newMay;
        }
        anew();
        return k;
    }

    // ---- net

    private boolean point(int i) {
        return i >= 0 && i < n;
    }

    long points(int count) {
        if (count < 1 || count > 8) {
            return -1;
        }
        int was = n;
        n = count;
        free();
        return was;
    }

    long tell(int i, int j, int s) {
        if (!point(i) || !point(j) || i == j || !set(s)) {
            return -1;
        }
        int was = told[i][j];
        told[i][j] = s;
        told[j][i] = turnOf(s);
        return was;
    }

    private boolean voided(int[][] net) {
        for (int i = 0; i < n; i++) {
            for (int j = 0; j < n; j++) {
                if (net[i][j] == 0) {
                    return true;
                }
            }
        }
        return false;
    }

    private static int[][] copy(int[][] net) {
        int[][] to = new int[8][];
        for (int i = 0; i < 8; i++) {
            to[i] = net[i].clone();
        }
        return to;
    }

    private void once(int[][] net, long[] sum) {
        sum[0] += 1;
        for (int i = 0; i < n; i++) {
            for (int j = 0; j < n; j++) {
                for (int m = 0; m < n; m++) {
                    if (i < m && j != i && j != m && !voided(net)) {
                        net[i][m] &= joinOf(net[i][j], net[j][m]);
                        net[m][i] = turnOf(net[i][m]);
                    }
                }
            }
        }
    }

    private void full(int[][] net, long[] sum) {
        sum[0] += 10;
        boolean changed = true;
        while (changed && !voided(net)) {
            int[][] was = copy(net);
            once(net, sum);
            changed = !Arrays.deepEquals(was, net);
        }
    }

    private void trying(int[][] net, long[] sum) {
        sum[0] += 100;
        boolean went = true;
        while (went && !voided(net)) {
            went = false;
            full(net, sum);
            for (int i = 0; i < n; i++) {
                for (int m = i + 1; m < n; m++) {
                    for (int c = 0; c < k; c++) {
                        if (voided(net) || (net[i][m] >> c & 1) == 0) {
                            continue;
                        }
                        int[][] alone = copy(net);
                        alone[i][m] = 1 << c;
                        alone[m][i] = 1 << turn[c];
                        full(alone, new long[1]);
                        if (voided(alone)) {
                            net[i][m] &= ~(1 << c);
                            net[m][i] = turnOf(net[i][m]);
                            went = true;
                        }
                    }
                }
            }
        }
    }

    private int[][] narrowed(int way, long[] sum) {
        int[][] net = copy(told);
        if (way == 0) {
            once(net, sum);
        } else if (way == 1) {
            full(net, sum);
        } else if (way == 2) {
            trying(net, sum);
        }
        return net;
    }

    long narrow(int way, int i, int j) {
        if (way < -1 || way > 2 || !point(i) || !point(j)) {
            return -1;
        }
        long[] sum = new long[1];
        int[][] net = narrowed(way, sum);
        trace += sum[0];
        return net[i][j];
    }

    long isVoid(int way) {
        if (way < -1 || way > 2) {
            return -1;
        }
        return voided(narrowed(way, new long[1])) ? 1 : 0;
    }

    /** What is asked of each filling, in order; false: no more. */
    private interface Use {
        boolean of(int[][] filling);
    }

    /** Whether it came to an end within its budget. Pairs in order, kinds rising. */
    private boolean each(int count, int[][] sets, Use use) {
        steps = 0;
        int[][] f = new int[8][8];
        return go(count, sets, f, 0, 1, use) >= 0;
    }

    /** 1 go on, 0 enough, -1 over the budget. */
    private int go(int count, int[][] sets, int[][] f, int i, int j, Use use) {
        if (++steps > BUDGET) {
            return -1;
        }
        if (i >= count - 1) {
            return use.of(f) ? 1 : 0;
        }
        if (j >= count) {
            return go(count, sets, f, i + 1, i + 2, use);
        }
        for (int c = 0; c < k; c++) {
            if ((sets[i][j] >> c & 1) == 0) {
                continue;
            }
            boolean fits = true;
            for (int p = 0; p < i; p++) {
                fits &= may[f[p][i]][c][f[p][j]];
            }
            if (fits) {
                f[i][j] = c;
                f[j][i] = turn[c];
                int more = go(count, sets, f, i, j + 1, use);
                if (more <= 0) {
                    return more;
                }
            }
        }
        return 1;
    }

    long fillings(int what) {
        if (what < 0 || what > 1) {
            return -1;
        }
        int[] sum = new int[1];
        boolean ended = each(n, told, f -> ++sum[0] <= (what == 0 ? 20000 : 0));
        if (what == 0) {
            return sum[0] > 20000 ? -5 : ended ? sum[0] : UNKNOWN;
        }
        return sum[0] > 0 ? 1 : ended ? 0 : UNKNOWN;
    }

    long first(int i, int j) {
        if (!point(i) || !point(j)) {
            return -1;
        }
        int[] kind = {-9};
        boolean ended = each(n, told, f -> {
            kind[0] = f[i][j];
            return false;
        });
        return kind[0] >= 0 || ended ? kind[0] : UNKNOWN;
    }

    long sure(int i, int j) {
        if (!point(i) || !point(j)) {
            return -1;
        }
        int[] sum = new int[2];
        boolean ended = each(n, told, f -> {
            sum[1] |= 1 << f[i][j];
            return ++sum[0] <= 20000;
        });
        return sum[0] > 20000 ? -5 : ended ? sum[1] : UNKNOWN;
    }

    long reason(int what) {
        if (what < 0 || what > 1) {
            return -1;
        }
        List<int[]> pairs = new ArrayList<>();
        for (int i = 0; i < n; i++) {
            for (int j = i + 1; j < n; j++) {
                if (told[i][j] != all()) {
                    pairs.add(new int[] {i, j});
                }
            }
        }
        if (pairs.size() > 10) {
            return -2;
        }
        int best = -9;
        for (int s = 0; s < 1 << pairs.size(); s++) {
            if (best >= 0 && Integer.bitCount(s) >= Integer.bitCount(best)) {
                continue;
            }
            int[][] net = new int[8][8];
            for (int[] row : net) {
                Arrays.fill(row, all());
            }
            for (int at = 0; at < pairs.size(); at++) {
                if ((s >> at & 1) == 1) {
                    int[] pair = pairs.get(at);
                    net[pair[0]][pair[1]] = told[pair[0]][pair[1]];
                }
            }
            boolean[] found = new boolean[1];
            boolean ended = each(n, net, f -> {
                found[0] = true;
                return false;
            });
            if (!found[0] && !ended) {
                return UNKNOWN;
            }
            if (!found[0]) {
                best = s;
            }
        }
        return best < 0 ? -9 : what == 0 ? Integer.bitCount(best) : best;
    }

    // ---- terms

    long type(long v, int count) {
        if (count < 1 || count > 8) {
            return -1;
        }
        if (draft.size() + count > 60) {
            return -3;
        }
        for (int at = count - 1; at >= 0; at--) {
            draft.add((int) (v >> 8 * at & 255));
        }
        return draft.size();
    }

    long clear() {
        int was = draft.size();
        draft.clear();
        return was;
    }

    private String text;
    private int at;
    private int factors;
    private int open;
    private boolean valued;
    private int[] xyz = new int[3];

    /** A byte that can't stand where it is. */
    private static final class Misplaced extends RuntimeException {
        private static final long serialVersionUID = 1;
    }

    private char next() {
        return at < text.length() ? text.charAt(at) : 0;
    }

    private int sum() {
        int s = meet();
        while (next() == '+') {
            at++;
            s |= meet();
        }
        return s;
    }

    private int meet() {
        int s = joined();
        while (next() == '&') {
            at++;
            s &= joined();
        }
        return s;
    }

    private int joined() {
        int s = factor();
        while (next() == ';') {
            at++;
            int t = factor();
            s = valued ? joinOf(s, t) : 0;
        }
        return s;
    }

    private int factor() {
        char c = next();
        if (c == 0 || ++factors > 40) {
            throw new Misplaced();
        }
        if (c == '-') {
            at++;
            return all() & ~factor();
        }
        if (c == '~') {
            at++;
            return turnOf(factor());
        }
        if (c == '(') {
            if (++open > 10) {
                throw new Misplaced();
            }
            at++;
            int s = sum();
            if (next() != ')') {
                throw new Misplaced();
            }
            open--;
            at++;
            return s;
        }
        int place = "01xyzabcdefgh".indexOf(c);
        if (place < 0 || place >= 5 + k) {
            throw new Misplaced();
        }
        at++;
        return place == 0 ? 0 : place == 1 ? all() : place < 5 ? xyz[place - 2] : 1 << place - 5;
    }

    private int run(String term, int x, int y, int z) {
        text = term;
        at = 0;
        factors = 0;
        open = 0;
        xyz = new int[] {x, y, z};
        int s = sum();
        if (at < text.length()) {
            throw new Misplaced();
        }
        return s;
    }

    long read(int i) {
        if (i < 0 || i > 3) {
            return -1;
        }
        StringBuilder typed = new StringBuilder();
        for (int one : draft) {
            // a 0 byte would look like the end of the text
            typed.append((char) (one == 0 ? 255 : one));
        }
        valued = false;
        try {
            run(typed.toString(), 0, 0, 0);
        } catch (Misplaced e) {
            return -10 - at;
        }
        terms[i] = typed.toString();
        draft.clear();
        return 1;
    }

    private int valueOf(int i, int x, int y, int z) {
        valued = true;
        return run(terms[i], x, y, z);
    }

    long value(int i, int x, int y, int z) {
        if (i < 0 || i > 3 || !set(x) || !set(y) || !set(z)) {
            return -1;
        }
        return valueOf(i, x, y, z);
    }

    long against(int i, int j) {
        if (i < 0 || i > 3 || j < 0 || j > 3) {
            return -1;
        }
        String both = terms[i] + terms[j];
        boolean[] stands = {both.indexOf('x') >= 0, both.indexOf('y') >= 0, both.indexOf('z') >= 0};
        int count = (stands[0] ? 1 : 0) + (stands[1] ? 1 : 0) + (stands[2] ? 1 : 0);
        if (k * count > 12) {
            return -2;
        }
        for (long number = 0; number < 1L << 3 * k; number++) {
            int x = (int) (number & all());
            int y = (int) (number >> k & all());
            int z = (int) (number >> 2 * k & all());
            if (x != 0 && !stands[0] || y != 0 && !stands[1] || z != 0 && !stands[2]) {
                continue;
            }
            if (valueOf(i, x, y, z) != valueOf(j, x, y, z)) {
                return number;
            }
        }
        return -9;
    }

    // ---- carried

    private boolean whole(int[][] f, int m) {
        for (int c = 1; c < k; c++) {
            boolean comes = false;
            for (int i = 0; i < m; i++) {
                for (int j = 0; j < m; j++) {
                    comes |= i != j && f[i][j] == c;
                }
            }
            if (!comes) {
                return false;
            }
        }
        for (int i = 0; i < m; i++) {
            for (int j = 0; j < m; j++) {
                for (int a = 1; a < k && i != j; a++) {
                    for (int b = 1; b < k; b++) {
                        boolean there = !may[a][b][f[i][j]];
                        for (int p = 0; p < m; p++) {
                            there |= p != i && p != j && f[i][p] == a && f[p][j] == b;
                        }
                        if (!there) {
                            return false;
                        }
                    }
                }
            }
        }
        return true;
    }

    long carried(int m, int what) {
        if (m < 1 || m > 5 || what < 0 || what > 1) {
            return -1;
        }
        int[][] sets = new int[8][8];
        for (int[] row : sets) {
            Arrays.fill(row, all() & ~1);
        }
        int[] sum = new int[2];
        boolean ended = each(m, sets, f -> {
            sum[1] += whole(f, m) ? 1 : 0;
            return ++sum[0] <= 20000;
        });
        return sum[0] > 20000 ? -5 : !ended ? UNKNOWN : what == 0 ? sum[0] : sum[1];
    }

    long count(int what) {
        if (what == 1) {
            int sum = 0;
            for (boolean[][] square : may) {
                for (boolean[] row : square) {
                    for (boolean one : row) {
                        sum += one ? 1 : 0;
                    }
                }
            }
            return sum;
        }
        return what == 0 ? k : what == 2 ? n : what == 3 ? shelfK : what == 4 ? draft.size() : -1;
    }

    long trace() {
        return trace;
    }
}
