import java.util.Random;

/** Long random runs of calls, each answer held against the slow model's. */
public final class ModelTest {
    private static final int CALLS = 512;
    private static int wrong = 0;
    private static int compared = 0;
    private static int unknown = 0;
    private static Random random;
    private static PairTables x;
    private static Model model;
    private static String called;
    private static int mostKinds;
    private static int mostPoints;

    public static void main(String[] args) {
        int runs = args.length > 0 ? Integer.parseInt(args[0]) : 120;
        int from = args.length > 1 ? Integer.parseInt(args[1]) : 0;
        for (int run = from; run < from + runs && wrong == 0; run++) {
            oneRun(run);
        }
        for (int run = from; run < from + 5 * runs && wrong == 0; run++) {
            tightRun(run);
        }
        // found among thousands: here a trial ends otherwise, if it does not look at what went just before
        tightRun(2698);
        System.out.println(compared + " answers held against the model, " + unknown + " too long for it, " + wrong + " wrong");
        if (wrong != 0 || compared < 1000) {
            System.exit(1);
        }
    }

    private static void oneRun(int run) {
        random = new Random(run);
        x = new PairTables();
        model = new Model();
        mostKinds = 2 + run % 7;
        mostPoints = 3 + run / 7 % 6;
        for (int call = 0; call < CALLS && wrong == 0; call++) {
            called = "";
            long[] both = step();
            if (both[1] == Model.UNKNOWN) {
                unknown++;
                continue;
            }
            compared++;
            if (both[0] != both[1]) {
                wrong++;
                System.out.println("run " + run + ", call " + call + ": " + called + " answered " + both[0] + ", due is " + both[1]);
            }
        }
    }

    /** Tables and nets in which few fillings are left, so that trying has much to do. */
    private static void tightRun(int run) {
        random = new Random(~run);
        x = new PairTables();
        model = new Model();
        int k = 3 + below(3);
        int n = 4 + below(4);
        both("kinds", x.kinds(k), model.kinds(k));
        if (below(2) == 0) {
            both("turn", x.turn(1, 2), model.turn(1, 2));
        }
        int less = 2 + below(6);
        for (int a = 1; a < k; a++) {
            for (int b = 1; b < k; b++) {
                for (int c = 1; c < k; c++) {
                    int is = below(less) == 0 ? 0 : 1;
                    if (is == 0) {
                        both("triangle", x.triangle(a, b, c, is), model.triangle(a, b, c, is));
                    }
                }
            }
        }
        both("points", x.points(n), model.points(n));
        for (int i = 0; i < n; i++) {
            for (int j = i + 1; j < n; j++) {
                int set = below(all() + 1) | below(all() + 1) & below(all() + 1);
                int told = below(8) == 0 ? set : set & ~1;
                both("tell", x.tell(i, j, told == 0 ? 2 : told), model.tell(i, j, told == 0 ? 2 : told));
            }
        }
        for (int i = 0; i < n && wrong == 0; i++) {
            for (int j = i + 1; j < n; j++) {
                int way = below(6) == 0 ? below(3) - 1 : 2;
                both("tight run " + run + ": narrow " + way + " " + i + " " + j, x.narrow(way, i, j), model.narrow(way, i, j));
            }
        }
        both("tight run " + run + ": trace", x.trace(), model.trace());
        both("tight run " + run + ": isVoid", x.isVoid(2), model.isVoid(2));
        both("tight run " + run + ": fillings", x.fillings(0), model.fillings(0));
        both("tight run " + run + ": first", x.first(n - 2, n - 1), model.first(n - 2, n - 1));
        both("tight run " + run + ": sure", x.sure(0, n - 1), model.sure(0, n - 1));
        both("tight run " + run + ": carried", x.carried(5, 1), model.carried(5, 1));
    }

    private static void both(String what, long got, long due) {
        if (due == Model.UNKNOWN) {
            unknown++;
            return;
        }
        compared++;
        if (got != due) {
            wrong++;
            System.out.println(what + " answered " + got + ", due is " + due);
        }
    }

    private static int below(int bound) {
        return random.nextInt(bound);
    }

    /** Mostly one that is right, seldom one that is off. */
    private static int pick(int from, int to) {
        int sort = below(40);
        if (sort == 0) {
            return from - 1;
        }
        if (sort == 1) {
            return to + 1;
        }
        if (sort == 2 && below(4) == 0) {
            return random.nextInt();
        }
        return to < from ? from : from + below(to - from + 1);
    }

    private static int all() {
        return (1 << model.count(0)) - 1;
    }

    private static int pickSet() {
        int sort = below(60);
        if (sort == 0) {
            return below(2) == 0 ? -1 - below(300) : all() + 1 + below(300);
        }
        if (sort < 3) {
            return 0;
        }
        if (sort < 20) {
            return 1 << below((int) model.count(0));
        }
        return below(all() + 1);
    }

    private static int kind() {
        return pick(1, (int) model.count(0) - 1);
    }

    private static int point() {
        return pick(0, (int) model.count(2) - 1);
    }

    private static long[] pair(String call, long got, long due) {
        called = call;
        return new long[] {got, due};
    }

    private static long[] step() {
        int sort = below(100);
        if (sort < 3) {
            return rareStep();
        }
        if (sort < 20) {
            return tableStep(sort);
        }
        if (sort < 75) {
            return netStep(sort);
        }
        if (sort < 93) {
            return termStep(sort);
        }
        if (sort < 97) {
            int m = pick(1, 5);
            int what = pick(0, 1);
            return pair("carried " + m + " " + what, x.carried(m, what), model.carried(m, what));
        }
        if (sort < 99) {
            int what = pick(0, 4);
            return pair("count " + what, x.count(what), model.count(what));
        }
        return pair("trace", x.trace(), model.trace());
    }

    private static long[] rareStep() {
        int sort = below(8);
        if (sort < 3) {
            int k = pick(1, mostKinds);
            return pair("kinds " + k, x.kinds(k), model.kinds(k));
        }
        if (sort == 3) {
            int a = kind();
            int b = kind();
            return pair("fuse " + a + " " + b, x.fuse(a, b), model.fuse(a, b));
        }
        if (sort == 4) {
            return pair("keep", x.keep(), model.keep());
        }
        if (sort == 5) {
            int what = pick(0, 1);
            return pair("shelf " + what, x.shelf(what), model.shelf(what));
        }
        if (sort == 6) {
            int n = pick(1, mostPoints);
            return pair("points " + n, x.points(n), model.points(n));
        }
        int a = kind();
        int b = kind();
        return pair("turn " + a + " " + b, x.turn(a, b), model.turn(a, b));
    }

    private static long[] tableStep(int sort) {
        if (sort < 14) {
            int a = kind();
            int b = kind();
            int c = kind();
            int is = below(3) > 0 ? 0 : pick(0, 1);
            return pair("triangle " + a + " " + b + " " + c + " " + is, x.triangle(a, b, c, is), model.triangle(a, b, c, is));
        }
        int a = pickSet();
        int b = pickSet();
        if (sort < 17) {
            return pair("join " + a + " " + b, x.join(a, b), model.join(a, b));
        }
        if (sort < 18) {
            return pair("turned " + a, x.turned(a), model.turned(a));
        }
        return pair("fault", x.fault(), model.fault());
    }

    private static long[] netStep(int sort) {
        int i = point();
        int j = point();
        if (sort < 45) {
            int set = pickSet();
            return pair("tell " + i + " " + j + " " + set, x.tell(i, j, set), model.tell(i, j, set));
        }
        if (sort < 55) {
            int way = pick(-1, 2);
            return pair("narrow " + way + " " + i + " " + j, x.narrow(way, i, j), model.narrow(way, i, j));
        }
        if (sort < 58) {
            int way = pick(-1, 2);
            return pair("isVoid " + way, x.isVoid(way), model.isVoid(way));
        }
        int what = pick(0, 1);
        if (sort < 63) {
            return pair("fillings " + what, x.fillings(what), model.fillings(what));
        }
        if (sort < 67) {
            return pair("first " + i + " " + j, x.first(i, j), model.first(i, j));
        }
        if (sort < 71) {
            return pair("sure " + i + " " + j, x.sure(i, j), model.sure(i, j));
        }
        return pair("reason " + what, x.reason(what), model.reason(what));
    }

    /** A text by the grammar, now and then with a byte that is wrong. */
    private static String text(int depth) {
        int sort = below(12);
        if (depth <= 0 || sort < 4) {
            String leaves = below(6) == 0 ? "abcdefgh" : below(4) == 0 ? "01z" : "xyxya";
            return "" + leaves.charAt(below(leaves.length()));
        }
        if (sort == 4) {
            return "-" + text(depth - 1);
        }
        if (sort == 5) {
            return "~" + text(depth - 1);
        }
        if (sort == 6) {
            return "(" + text(depth - 1) + ")";
        }
        if (sort == 7) {
            return "(".repeat(below(13)) + text(depth - 1) + ")".repeat(below(13));
        }
        if (sort == 8 && below(4) == 0) {
            return (below(2) == 0 ? "-" : "~").repeat(below(45)) + text(depth - 1);
        }
        return text(depth - 1) + "+&;".charAt(below(3)) + text(depth - 1);
    }

    private static long[] termStep(int sort) {
        if (sort < 86) {
            return typeAndRead();
        }
        int i = pick(0, 3);
        int j = pick(0, 3);
        if (sort < 90) {
            int s = pickSet();
            int t = pickSet();
            int u = pickSet();
            return pair("value " + i + " " + s + " " + t + " " + u, x.value(i, s, t, u), model.value(i, s, t, u));
        }
        if (sort < 92) {
            return pair("against " + i + " " + j, x.against(i, j), model.against(i, j));
        }
        int n = pick(1, 8);
        long v = below(2) == 0 ? random.nextLong() : 0x3030303030303030L;
        return pair("type " + v + " " + n, x.type(v, n), model.type(v, n));
    }

    private static long[] typeAndRead() {
        if (below(3) > 0) {
            long[] both = pair("clear", x.clear(), model.clear());
            if (both[0] != both[1]) {
                return both;
            }
        }
        String text = text(5);
        if (below(8) == 0 && !text.isEmpty()) {
            int place = below(text.length());
            text = text.substring(0, place) + "+;&)(-~ X9\u00e9".charAt(below(11)) + text.substring(place);
        }
        for (int at = 0; at < text.length(); at += 8) {
            int many = Math.min(8, text.length() - at);
            long v = random.nextLong();
            for (int one = 0; one < many; one++) {
                v = v << 8 | text.charAt(at + one);
            }
            long[] both = pair("type " + v + " " + many, x.type(v, many), model.type(v, many));
            if (both[0] != both[1]) {
                return both;
            }
        }
        int i = pick(0, 3);
        return pair("read " + i + " of " + text, x.read(i), model.read(i));
    }
}
