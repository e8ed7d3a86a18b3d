/** The boundary cases of points that carry a table, sentence by sentence: part 4 of 'Terms', promises 24 and 25. */
public final class CarriedEdgesTest extends Hand {
    private static final int[] OFF = {Integer.MIN_VALUE, -2, -1, 6, 7, 64, Integer.MAX_VALUE};

    public static void main(String[] args) {
        onePoint();
        twoPoints();
        threePoints();
        sameNeverStands();
        eachTriangleIsThere();
        eachKindComes();
        eachKindComesOnce();
        thereForEachTwo();
        justNotSpent();
        spent();
        refused();
        tableAlone();
        counts();
        countsRefused();
        end("CarriedEdgesTest");
    }

    private static void onePoint() {
        due("SAME alone at first", 1, new PairTables().carried(1, 0));
        due("SAME alone at first", 1, new PairTables().carried(1, 1));
        due("SAME alone at first: two can't be", 0, new PairTables().carried(2, 1));
        for (int k = 1; k <= 8; k++) {
            PairTables x = ofKinds(k);
            due("one row of none", 1, x.carried(1, 0));
            due("WHOLE, if SAME is alone: each KIND but SAME comes", k == 1 ? 1 : 0, x.carried(1, 1));
        }
    }

    private static void twoPoints() {
        for (int k = 1; k <= 8; k++) {
            PairTables x = ofKinds(k);
            due("each but SAME", k - 1, x.carried(2, 0));
            due("a third one is not there", 0, x.carried(2, 1));
        }
        PairTables x = ofKinds(2);
        x.triangle(1, 1, 1, 0);
        due("no TRIANGLE without SAME MAY BE", 1, x.carried(2, 1));
        x.kinds(3);
        x.turn(1, 2);
        x.triangle(1, 1, 1, 0);
        x.triangle(1, 1, 2, 0);
        due("1 and its TURN come by one pair", 2, x.carried(2, 1));
        x.turn(1, 1);
        x.triangle(1, 1, 1, 0);
        x.triangle(2, 2, 2, 0);
        x.triangle(1, 1, 2, 0);
        x.triangle(1, 2, 2, 0);
        due("two rows", 2, x.carried(2, 0));
        due("1 and 2 can't both come", 0, x.carried(2, 1));
    }

    private static void threePoints() {
        for (int k = 1; k <= 8; k++) {
            PairTables x = ofKinds(k);
            int others = k - 1;
            due("each TRIANGLE without SAME", others * others * others, x.carried(3, 0));
            due("WHOLE, if there is just one", k == 2 ? 1 : 0, x.carried(3, 1));
        }
        PairTables x = line();
        due("orders of three", 6, x.carried(3, 0));
    }

    private static void sameNeverStands() {
        PairTables x = new PairTables();
        for (int m = 2; m <= 5; m++) {
            due("SAME alone: no row", 0, x.carried(m, 0));
            due("SAME alone: no row", 0, x.carried(m, 1));
        }
        x.kinds(2);
        for (int m = 2; m <= 5; m++) {
            due("all of 1", 1, x.carried(m, 0));
        }
        x.triangle(1, 1, 1, 0);
        due("not by SAME", 0, x.carried(3, 0));
        due("not by SAME", 0, x.carried(5, 0));
    }

    private static void eachTriangleIsThere() {
        PairTables x = mixed();
        due("rings of five", 12, x.carried(5, 0));
        due("rings of five: each has (1, 2, 1), (2, 1, 1), (2, 2, 1), ..", 12, x.carried(5, 1));
        due("four", 18, x.carried(4, 0));
        due("four: two ways more than there are third ones", 0, x.carried(4, 1));
        x.triangle(1, 1, 1, 1);
        due("(1, 1, 1) MAY BE, too, and isn't there", 0, x.carried(5, 1));
        x = line();
        due("(1, 1, 1): there is one between, always", 0, x.carried(5, 1));
        x = ofKinds(2);
        for (int m = 3; m <= 5; m++) {
            due("(1, 1, 1) is there", 1, x.carried(m, 1));
        }
    }

    private static void eachKindComes() {
        // (1, 1, 1) alone MAY BE, so that three points have 1; 2 MAY stand between no three
        PairTables x = mixed();
        x.triangle(1, 1, 1, 1);
        x.triangle(1, 1, 2, 0);
        x.triangle(1, 2, 2, 0);
        due("just one row", 1, x.carried(3, 0));
        due("each TRIANGLE is there, but 2 never comes", 0, x.carried(3, 1));
        // 1 and 2 by turns: each pair has both
        x = ofKinds(3);
        x.turn(1, 2);
        x.triangle(1, 1, 1, 0);
        due("rings of three", 2, x.carried(3, 0));
        due("2 comes as the TURN of 1; (1, 1, 2) is there for each two", 2, x.carried(3, 1));
        // 3 is the last KIND: it never comes
        x = ofKinds(4);
        x.turn(1, 2);
        for (int b = 1; b < 4; b++) {
            for (int c = 1; c < 4; c++) {
                x.triangle(3, b, c, 0);
            }
        }
        x.triangle(1, 1, 1, 0);
        due("rings of three", 2, x.carried(3, 0));
        due("3 never comes", 0, x.carried(3, 1));
    }

    /** A table of three POINTS that have nothing alike: 3 from 0 to 1, 1 from 1 to 2, 5 from 0 to 2. */
    private static void eachKindComesOnce() {
        PairTables x = ofKinds(7);
        x.turn(1, 2);
        x.turn(3, 4);
        x.turn(5, 6);
        for (int a = 1; a < 7; a++) {
            for (int b = 1; b < 7; b++) {
                for (int c = 1; c < 7; c++) {
                    x.triangle(a, b, c, 0);
                }
            }
        }
        due("(3, 1, 5) again", 0, x.triangle(3, 1, 5, 1));
        due("with its same ones, and 19 with SAME", 19 + 6, x.count(1));
        due("the three POINTS in any order", 6, x.carried(3, 0));
        due("each KIND comes by one pair, there or back", 6, x.carried(3, 1));
        due("two: no third one", 6, x.carried(2, 0));
        due("two: no third one", 0, x.carried(2, 1));
        due("five: three sorts of pairs can't meet at a POINT", 0, x.carried(5, 0));
    }

    /** Two couples: 1 in a couple, 2 between couples. (2, 2, 1), (2, 1, 2), (1, 2, 2) MAY BE. */
    private static void thereForEachTwo() {
        PairTables x = ofKinds(3);
        x.triangle(1, 1, 1, 0);
        x.triangle(1, 1, 2, 0);
        x.triangle(2, 2, 2, 0);
        due("two couples of four: 3; all of 2 can't be", 3, x.carried(4, 0));
        due("WHOLE: each two of 1 have 2 and 2 between, each of 2 have 1 and 2, 2 and 1", 3, x.carried(4, 1));
        due("three: one couple and one more", 3, x.carried(3, 0));
        due("three: between the couple and the other not both ways", 0, x.carried(3, 1));
        due("five can't be", 0, x.carried(5, 0));
        x.triangle(2, 2, 2, 1);
        due("all of 2, one couple, two couples", 1 + 6 + 3, x.carried(4, 0));
        due("(2, 2, 2) for each two of 2: in none", 0, x.carried(4, 1));
        due("five: all of 2, 10 of one couple, 15 of two", 26, x.carried(5, 0));
        due("five: a couple has two third ones, but two have no couple", 0, x.carried(5, 1));
    }

    private static PairTables barred(int k, int turn, int[][] told) {
        PairTables x = ofKinds(k);
        if (turn > 0) {
            x.turn(turn, turn + 1);
        }
        for (int[] one : told) {
            x.triangle(one[0], one[1], one[2], 0);
        }
        return x;
    }

    /** Tables found by trial; Model agrees that the first has 20000 rows, the second 20001. */
    private static void justNotSpent() {
        int[][] told = {{1, 2, 1}, {4, 3, 1}, {3, 5, 2}, {6, 1, 6}, {4, 2, 6}, {5, 2, 4}, {1, 1, 4}, {3, 5, 6}, {2, 2, 4}};
        PairTables x = barred(7, 0, told);
        due("20000", 20000, x.carried(4, 0));
        due("20000: WHOLE", 0, x.carried(4, 1));
        int[][] more = {{5, 1, 5}, {3, 4, 5}, {4, 1, 6}, {4, 6, 3}, {2, 5, 1}, {2, 4, 2}, {2, 1, 5}, {1, 6, 5}, {4, 6, 6}};
        x = barred(7, 3, more);
        due("20001", -5, x.carried(4, 0));
        due("20001: WHOLE", -5, x.carried(4, 1));
        int[][] others = {{4, 6, 1}, {5, 2, 2}, {4, 6, 4}, {4, 4, 6}, {3, 3, 6}, {1, 1, 4}, {5, 2, 3}, {5, 4, 3}, {4, 2, 2}};
        x = barred(7, 0, others);
        due("some more than 20000", -5, x.carried(4, 0));
    }

    private static void spent() {
        PairTables x = ofKinds(6);
        due("5 to the 6th", 15625, x.carried(4, 0));
        due("5 to the 6th: none is WHOLE", 0, x.carried(4, 1));
        x.kinds(7);
        due("6 to the 6th", -5, x.carried(4, 0));
        due("6 to the 6th, WHOLE", -5, x.carried(4, 1));
        due("three of seven", 216, x.carried(3, 0));
        x.kinds(3);
        due("2 to the 10th", 1024, x.carried(5, 0));
        x.kinds(4);
        due("3 to the 10th", -5, x.carried(5, 0));
        due("3 to the 10th, WHOLE", -5, x.carried(5, 1));
        due("3 to the 6th", 729, x.carried(4, 0));
        x.kinds(8);
        due("7 to the 10th", -5, x.carried(5, 1));
        due("7 to the 3rd", 343, x.carried(3, 0));
    }

    private static void refused() {
        PairTables x = ofKinds(4);
        String before = seen(x);
        due("no POINTS", -1, x.carried(0, 0));
        due("six", -1, x.carried(6, 0));
        for (int off : OFF) {
            due("too few or too many", -1, x.carried(off, 0));
            due("too few or too many", -1, x.carried(off, 1));
            due("no such thing", -1, x.carried(1, off == 1 ? 2 : off));
        }
        due("no such thing", -1, x.carried(3, 2));
        due("BAD before SPENT", -1, x.carried(5, 2));
        due("BAD before SPENT", -1, x.carried(5, -1));
        unchanged("carried", before, x);
    }

    private static void tableAlone() {
        PairTables x = line();
        x.points(1);
        due("not by THE NET's POINTS", 24, x.carried(4, 0));
        x.points(4);
        x.tell(0, 1, 2);
        x.tell(2, 3, 0);
        due("not by what is TOLD", 24, x.carried(4, 0));
        due("POINTS stay", 4, x.count(2));
        due("what is TOLD stays", 2, x.narrow(-1, 0, 1));
        x.triangle(1, 1, 2, 1);
        due("by the table as it is", 64, x.carried(4, 0));
        x.turn(2, 2);
        due("by the table as it is", 64, x.carried(4, 0));
        x.triangle(1, 1, 1, 0);
        x.triangle(2, 2, 2, 0);
        due("by the table as it is", 18, x.carried(4, 0));
        x.kinds(2);
        due("by the table as it is", 1, x.carried(4, 1));
    }

    private static void counts() {
        PairTables x = new PairTables();
        int[] first = {1, 1, 3, 0, 0};
        for (int what = 0; what < 5; what++) {
            due("at first: " + what, first[what], x.count(what));
        }
        x.kinds(8);
        x.keep();
        x.points(8);
        put(x, "x".repeat(60));
        int[] most = {8, 365, 8, 8, 60};
        for (int what = 0; what < 5; what++) {
            due("at most: " + what, most[what], x.count(what));
        }
        x.kinds(1);
        x.keep();
        x.points(1);
        x.clear();
        int[] least = {1, 1, 1, 1, 0};
        for (int what = 0; what < 5; what++) {
            due("at least: " + what, least[what], x.count(what));
        }
        x.kinds(2);
        x.points(4);
        x.type(0, 3);
        int[] then = {2, 5, 4, 1, 3};
        for (int what = 0; what < 5; what++) {
            due("then: " + what, then[what], x.count(what));
        }
    }

    private static void countsRefused() {
        PairTables x = line();
        String before = seen(x);
        due("too large", -1, x.count(5));
        due("too small", -1, x.count(-1));
        due("far off", -1, x.count(Integer.MIN_VALUE));
        due("far off", -1, x.count(Integer.MAX_VALUE));
        unchanged("count", before, x);
    }
}
