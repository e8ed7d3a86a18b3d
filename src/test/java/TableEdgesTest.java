/** The boundary cases of the table, sentence by sentence: part 1 of 'Terms', FUSED, SHELF, promises 1 to 10. */
public final class TableEdgesTest extends Hand {
    private static final int[] OFF = {Integer.MIN_VALUE, -257, -2, -1, 256, 257, Integer.MAX_VALUE};

    public static void main(String[] args) {
        newObject();
        kindsAreOneToEight();
        kindsRefused();
        kindsMakesAllNew();
        sameIsItsOwnTurn();
        turnsAtFirst();
        turnOfASet();
        turnedRefused();
        trianglesWithSame();
        trianglesWithSameAreNotTold();
        allThatAreTheSame();
        sameOnesThatFallTogether();
        triangleRefused();
        triangleLeaves();
        howManyTriangles();
        joinOfNone();
        joinOfSets();
        joinRefused();
        soundTables();
        firstFaults();
        turnOfOneAndTheSame();
        turnsThatWere();
        turnFreesAll();
        turnRefused();
        fuseRefused();
        fuseBothTheirOwn();
        fuseTurnsToo();
        fuseByOneOfThose();
        fuseMakesNew();
        shelfRefused();
        shelfKeeps();
        shelfBack();
        madeOfTwoNumbers();
        madeOfTwoByBoth();
        madeOfTwoFull();
        madeOfOneKind();
        end("TableEdgesTest");
    }

    private static void newObject() {
        PairTables x = new PairTables();
        due("1 at first: KINDS", 1, x.count(0));
        due("SAME alone: TRIANGLES", 1, x.count(1));
        due("three POINTS", 3, x.count(2));
        due("THE SHELF is empty", 0, x.count(3));
        due("THE DRAFT is empty", 0, x.count(4));
        due("0 at first: THE TRACE", 0, x.trace());
        due("all KINDS at first", 1, x.narrow(-1, 0, 2));
        due("SAME with SAME", 1, x.join(1, 1));
        due("SOUND", -9, x.fault());
        for (int i = 0; i < 4; i++) {
            due("0 each at first", 0, x.value(i, 1, 1, 1));
        }
        due("nothing there yet", -2, x.shelf(0));
        due("one FILLING", 1, x.fillings(0));
        due("an empty DRAFT", -10, x.read(0));
    }

    private static void kindsAreOneToEight() {
        PairTables x = new PairTables();
        int were = 1;
        for (int k = 1; k <= 8; k++) {
            due("how many KINDS there were", were, x.kinds(k));
            due("k KINDS", k, x.count(0));
            due("the highest KIND is there", 1 << k - 1, x.turned(1 << k - 1));
            due("the next one is not", -1, x.turned(1 << k));
            were = k;
        }
        due("from 8 to 1", 8, x.kinds(1));
        due("1 to 1", 1, x.kinds(1));
        due("SAME alone", -1, x.turn(1, 1));
    }

    private static void kindsRefused() {
        PairTables x = line();
        x.tell(0, 1, 2);
        readOf(x, 2, "x+b");
        put(x, "c");
        x.narrow(1, 0, 1);
        String before = seen(x);
        due("too small", -1, x.kinds(0));
        due("too large", -1, x.kinds(9));
        for (int off : OFF) {
            due("far off", -1, x.kinds(off));
        }
        unchanged("kinds", before, x);
        due("the DRAFT is there yet", 1, x.read(0));
        due("the DRAFT is there yet", 4, x.value(0, 0, 0, 0));
    }

    private static void kindsMakesAllNew() {
        PairTables x = line();
        x.points(4);
        x.tell(0, 1, 2);
        x.tell(2, 3, 0);
        readOf(x, 0, "1");
        readOf(x, 3, "x");
        put(x, "c+");
        x.keep();
        x.narrow(0, 0, 1);
        due("as many as there were", 3, x.kinds(3));
        due("each its own TURN", 2, x.turned(2));
        due("each its own TURN", 4, x.turned(4));
        due("all MAY BE", 15, x.count(1));
        due("all MAY BE", 7, x.join(2, 2));
        due("all KINDS are TOLD", 7, x.narrow(-1, 0, 1));
        due("all KINDS are TOLD", 7, x.narrow(-1, 3, 2));
        due("TERMS are 0", 0, x.value(0, 7, 7, 7));
        due("TERMS are 0", 0, x.value(3, 7, 7, 7));
        due("POINTS stay", 4, x.count(2));
        due("THE SHELF stays", 3, x.count(3));
        due("THE DRAFT stays", 2, x.count(4));
        due("THE TRACE stays", 1, x.trace());
        due("the table of THE SHELF stays", 3, x.shelf(0));
        due("the table of THE SHELF stays", 2, x.join(2, 2));
        put(x, "b");
        due("the bytes of THE DRAFT stay", 1, x.read(1));
        due("the bytes of THE DRAFT stay", 6, x.value(1, 0, 0, 0));
        x.tell(0, 1, 0);
        x.kinds(8);
        due("all eight are TOLD", 255, x.narrow(-1, 0, 1));
        due("all eight are TOLD", 255, x.narrow(-1, 1, 0));
        x.kinds(1);
        due("SAME alone is TOLD", 1, x.narrow(-1, 0, 1));
    }

    private static void sameIsItsOwnTurn() {
        PairTables x = ofKinds(8);
        for (int a = 1; a < 8; a++) {
            due("SAME is told", -1, x.turn(0, a));
            due("SAME is told", -1, x.turn(a, 0));
            x.turn(a, 8 - a);
            due("SAME to itself", 1, x.turned(1));
        }
        due("SAME is told", -1, x.turn(0, 0));
    }

    private static void turnsAtFirst() {
        for (int k = 1; k <= 8; k++) {
            PairTables x = ofKinds(k);
            for (int set = 0; set < 1 << k; set = 2 * set + 1) {
                due("each to itself at first", set, x.turned(set));
            }
            due("each to itself at first", 1 << k - 1, x.turned(1 << k - 1));
        }
    }

    private static void turnOfASet() {
        PairTables x = ofKinds(8);
        x.turn(1, 7);
        x.turn(5, 2);
        due("of none", 0, x.turned(0));
        due("of one", 128, x.turned(2));
        due("it turns back", 2, x.turned(128));
        due("of each of it", 1 + 128 + 32 + 8, x.turned(1 + 2 + 4 + 8));
        due("of each of it", 2 + 4 + 16 + 64, x.turned(128 + 32 + 16 + 64));
        due("of all", 255, x.turned(255));
    }

    private static void turnedRefused() {
        for (int k = 1; k <= 8; k++) {
            PairTables x = ofKinds(k);
            due("all", (1 << k) - 1, x.turned((1 << k) - 1));
            due("bits beyond", -1, x.turned(1 << k));
            due("bits beyond", -1, x.turned(1 | 1 << k));
            for (int off : OFF) {
                due("far off", -1, x.turned(off));
            }
        }
    }

    private static void trianglesWithSame() {
        PairTables x = ofKinds(8);
        x.turn(1, 2);
        x.turn(3, 7);
        int[] turns = {0, 2, 1, 7, 4, 5, 6, 3};
        for (int a = 0; a < 8; a++) {
            due("(0, a, a) alone", 1 << a, x.join(1, 1 << a));
            due("(a, 0, a) alone", 1 << a, x.join(1 << a, 1));
            for (int b = 0; b < 8; b++) {
                due("(a, a's TURN, 0) alone", turns[a] == b ? 1 : 0, x.join(1 << a, 1 << b) & 1);
            }
        }
    }

    private static void trianglesWithSameAreNotTold() {
        PairTables x = line();
        String before = seen(x);
        int[][] withSame = {{0, 0, 0}, {0, 1, 1}, {1, 0, 1}, {1, 2, 0}, {0, 1, 2}, {1, 0, 2}, {1, 1, 0}, {0, 0, 1}};
        for (int[] one : withSame) {
            due("with SAME", -1, x.triangle(one[0], one[1], one[2], 0));
            due("with SAME", -1, x.triangle(one[0], one[1], one[2], 1));
        }
        unchanged("triangle with SAME", before, x);
    }

    private static void allThatAreTheSame() {
        // 1' = 2, 3' = 4, 5' = 6: (a, b, c) = (1, 3, 5) and the five others in the document's order
        int[][] same = {{1, 3, 5}, {5, 4, 1}, {2, 5, 3}, {3, 6, 2}, {6, 1, 4}, {4, 2, 6}};
        for (int told = 0; told < 6; told++) {
            PairTables x = ofKinds(8);
            x.turn(1, 2);
            x.turn(3, 4);
            x.turn(5, 6);
            int all = x.count(1);
            due("it might", 1, x.triangle(same[told][0], same[told][1], same[told][2], 0));
            due("just these six", all - 6, x.count(1));
            for (int[] one : same) {
                due("the same one", 0, x.join(1 << one[0], 1 << one[1]) >> one[2] & 1);
            }
            int[] other = same[(told + 1) % 6];
            due("it might not", 0, x.triangle(other[0], other[1], other[2], 1));
            due("all six are back", all, x.count(1));
            due("it might", 1, x.triangle(other[0], other[1], other[2], 1));
        }
    }

    private static void sameOnesThatFallTogether() {
        PairTables x = ofKinds(4);
        x.turn(1, 2);
        int all = x.count(1);
        due("(3, 3, 3) is just one", 1, x.triangle(3, 3, 3, 0));
        due("(3, 3, 3) is just one", all - 1, x.count(1));
        due("(1, 3, 1) is three", 1, x.triangle(1, 3, 1, 0));
        due("(1, 3, 1) is three", all - 4, x.count(1));
        due("(2, 1, 3)", 0, x.join(4, 2) >> 3 & 1);
        due("(3, 2, 2)", 0, x.join(8, 4) >> 2 & 1);
        due("not (1, 2, 3)", 1, x.join(2, 4) >> 3 & 1);
        due("(1, 1, 1) is six", 1, x.triangle(1, 1, 1, 0));
        due("(1, 1, 1) is six", all - 10, x.count(1));
        due("(2, 1, 1)", 0, x.join(4, 2) >> 1 & 1);
        due("(1, 1, 2) stays", 1, x.join(2, 2) >> 2 & 1);
        due("(1, 1, 2) and (2, 2, 1) alone", 1, x.triangle(2, 2, 1, 0));
        due("(1, 1, 2) and (2, 2, 1) alone", all - 12, x.count(1));
        due("(1, 1, 2) is the same as (2, 2, 1)", 0, x.triangle(1, 1, 2, 1));
        due("told twice", 1, x.triangle(1, 1, 2, 1));
        due("told twice", all - 10, x.count(1));
    }

    private static void triangleRefused() {
        PairTables x = ofKinds(3);
        x.triangle(1, 2, 2, 0);
        x.tell(0, 1, 6);
        String before = seen(x);
        for (int at = 0; at < 3; at++) {
            int[] kinds = {1, 2, 1};
            int[] wrong = {3, -1, 0, 7, 8, Integer.MIN_VALUE, Integer.MAX_VALUE};
            for (int one : wrong) {
                kinds[at] = one;
                due("no such KIND", -1, x.triangle(kinds[0], kinds[1], kinds[2], 0));
                due("no such KIND", -1, x.triangle(kinds[0], kinds[1], kinds[2], 1));
            }
        }
        due("is = 2", -1, x.triangle(1, 1, 1, 2));
        due("is = -1", -1, x.triangle(1, 1, 1, -1));
        due("is far off", -1, x.triangle(1, 1, 1, Integer.MIN_VALUE));
        due("is far off", -1, x.triangle(1, 1, 1, 256));
        unchanged("triangle", before, x);
        due("the highest KIND", 1, x.triangle(2, 2, 2, 0));
        x.kinds(1);
        due("SAME alone", -1, x.triangle(1, 1, 1, 0));
    }

    private static void triangleLeaves() {
        PairTables x = line();
        x.tell(0, 1, 2);
        readOf(x, 1, "x+b");
        put(x, "c");
        x.triangle(1, 1, 1, 0);
        due("what is TOLD stays", 2, x.narrow(-1, 0, 1));
        due("TERMS stay", 3, x.value(1, 1, 0, 0));
        due("THE DRAFT stays", 1, x.count(4));
        due("TURNS stay", 4, x.turned(2));
    }

    private static void howManyTriangles() {
        for (int k = 1; k <= 8; k++) {
            PairTables x = ofKinds(k);
            int others = k - 1;
            // (0, a, a) and (a, 0, a): k each, (0, 0, 0) is in both; (a, a', 0) for the others
            due("all without SAME MAY BE", others * others * others + 3 * others + 1, x.count(1));
            if (k > 2) {
                x.turn(1, 2);
                due("with TURNS, too", others * others * others + 3 * others + 1, x.count(1));
            }
        }
        PairTables x = mixed();
        x.triangle(1, 1, 2, 0);
        x.triangle(2, 2, 1, 0);
        due("those with SAME alone", 7, x.count(1));
    }

    private static void joinOfNone() {
        for (int k = 1; k <= 8; k += 7) {
            PairTables x = ofKinds(k);
            int all = (1 << k) - 1;
            due("of none", 0, x.join(0, all));
            due("with none", 0, x.join(all, 0));
            due("none and none", 0, x.join(0, 0));
            due("all and all", all, x.join(all, all));
            due("SAME is all's own", all, x.join(1, all));
        }
        PairTables x = mixed();
        x.triangle(1, 1, 2, 0);
        x.triangle(1, 2, 2, 0);
        due("nothing may come of two", 0, x.join(2, 4));
    }

    private static void joinOfSets() {
        PairTables x = ofKinds(8);
        for (int a = 1; a < 8; a++) {
            for (int b = a; b < 8; b++) {
                for (int c = b; c < 8; c++) {
                    x.triangle(a, b, c, 0);
                }
            }
        }
        x.triangle(1, 6, 7, 1);
        x.triangle(3, 4, 5, 1);
        due("low and high", 128, x.join(2, 64));
        due("high and low", 128, x.join(64, 2));
        due("high and high", 2, x.join(64, 128));
        due("low and high", 32, x.join(8, 16));
        due("high and high", 8, x.join(16, 32));
        due("of one and one of both", 128 + 32, x.join(2 + 8, 64 + 16));
        due("of one and one of both", 2 + 8 + 1, x.join(64 + 16, 128 + 32 + 16));
        due("with SAME", 2 + 64 + 128, x.join(1 + 2, 2 + 64) & ~1);
    }

    private static void joinRefused() {
        for (int k = 1; k <= 8; k++) {
            PairTables x = ofKinds(k);
            int all = (1 << k) - 1;
            due("bits beyond, first", -1, x.join(1 << k, 1));
            due("bits beyond, second", -1, x.join(1, 1 << k));
            due("bits beyond and within", -1, x.join(all, all + 1 | 1));
            String before = seen(x);
            for (int off : OFF) {
                due("far off, first", -1, x.join(off, all));
                due("far off, second", -1, x.join(all, off));
                due("far off, and none", -1, x.join(off, 0));
            }
            unchanged("join", before, x);
        }
    }

    private static void soundTables() {
        for (int k = 1; k <= 8; k++) {
            due("all free", -9, ofKinds(k).fault());
        }
        due("the line", -9, line().fault());
        due("SOUND without (1, 1, 1) and (2, 2, 2)", -9, mixed().fault());
    }

    private static void firstFaults() {
        PairTables x = ofKinds(3);
        x.triangle(1, 2, 1, 0);
        x.triangle(1, 2, 2, 0);
        // 1;1 is {0, 1}, with 2: {2}; 1;2 is none
        due("(1, 1, 2)", 64 + 8 + 2, x.fault());
        x.triangle(1, 2, 1, 1);
        due("SOUND again", -9, x.fault());
        // these three were found by trial, and Model agrees: all smaller a, b, c join alike
        x = ofKinds(5);
        x.turn(4, 3);
        x.triangle(4, 2, 1, 0);
        x.triangle(4, 1, 1, 0);
        due("(1, 1, 1)", 64 + 8 + 1, x.fault());
        x = ofKinds(7);
        x.turn(6, 5);
        int[][] told = {{6, 1, 5}, {3, 4, 4}, {6, 6, 4}, {2, 5, 6}, {4, 4, 5}};
        for (int[] one : told) {
            x.triangle(one[0], one[1], one[2], 0);
        }
        due("the first one, far on", 64 * 4 + 8 * 4 + 5, x.fault());
        x = ofKinds(6);
        x.turn(5, 4);
        int[][] others = {{5, 4, 4}, {5, 1, 3}, {3, 5, 5}, {3, 2, 5}};
        for (int[] one : others) {
            x.triangle(one[0], one[1], one[2], 0);
        }
        due("64 a and 8 b and c", 64 * 3 + 8 * 5 + 4, x.fault());
    }

    private static void turnOfOneAndTheSame() {
        PairTables x = ofKinds(4);
        x.turn(1, 2);
        due("one and the same", 1, x.turn(1, 1));
        due("it is its own", 2, x.turned(2));
        due("that which was its TURN, too", 4, x.turned(4));
        due("one that is its own", 1, x.turn(3, 3));
        due("one that is its own", 8, x.turned(8));
        due("the highest", 1, x.turn(3, 1));
        due("the highest", 2, x.turned(8));
    }

    private static void turnsThatWere() {
        PairTables x = ofKinds(6);
        x.turn(1, 2);
        x.turn(3, 4);
        due("each other's", 1, x.turn(1, 3));
        due("each other's", 8, x.turned(2));
        due("each other's", 2, x.turned(8));
        due("that of the first was 2", 4, x.turned(4));
        due("that of the second was 4", 16, x.turned(16));
        due("one that is its own", 1, x.turn(5, 1));
        due("each other's", 2, x.turned(32));
        due("each other's", 32, x.turned(2));
        due("that of 1 was 3", 8, x.turned(8));
        due("as they are", 1, x.turn(5, 1));
        due("as they are", 2, x.turned(32));
        due("the other way round", 1, x.turn(1, 5));
        due("the other way round", 32, x.turned(2));
    }

    private static void turnFreesAll() {
        PairTables x = line();
        x.points(4);
        x.keep();
        x.tell(0, 3, 2);
        readOf(x, 0, "x+b");
        put(x, "c");
        x.narrow(0, 0, 1);
        due("as it is", 1, x.turn(1, 2));
        due("all MAY BE then", 15, x.count(1));
        due("all MAY BE then", 6, x.join(2, 2));
        due("(a, a's TURN, 0) by the new TURNS", 7, x.join(2, 4));
        due("all KINDS are TOLD", 7, x.narrow(-1, 0, 3));
        due("all KINDS are TOLD", 7, x.narrow(-1, 3, 0));
        due("TERMS stay", 3, x.value(0, 1, 0, 0));
        due("THE DRAFT stays", 1, x.count(4));
        due("POINTS stay", 4, x.count(2));
        due("THE TRACE stays", 1, x.trace());
        due("KINDS stay", 3, x.count(0));
        x.shelf(0);
        due("THE SHELF stays", 2, x.join(2, 2));
    }

    private static void turnRefused() {
        PairTables x = line();
        x.tell(0, 1, 2);
        String before = seen(x);
        int[] wrong = {0, 3, 8, -1, Integer.MIN_VALUE, Integer.MAX_VALUE};
        for (int one : wrong) {
            due("not a KIND but SAME, first", -1, x.turn(one, 1));
            due("not a KIND but SAME, second", -1, x.turn(2, one));
            due("not a KIND but SAME, both", -1, x.turn(one, one));
        }
        unchanged("turn", before, x);
    }

    private static void fuseRefused() {
        PairTables x = ofKinds(6);
        x.turn(1, 2);
        x.turn(3, 4);
        x.triangle(1, 3, 5, 0);
        x.tell(0, 1, 6);
        readOf(x, 0, "x+b");
        String before = seen(x);
        int[] wrong = {0, 6, 8, -1, Integer.MIN_VALUE, Integer.MAX_VALUE};
        for (int one : wrong) {
            due("SAME, or no such KIND", -1, x.fuse(one, 1));
            due("SAME, or no such KIND", -1, x.fuse(1, one));
            due("SAME, or no such KIND", -1, x.fuse(one, 5));
        }
        due("one and the same, that is not its own TURN", -1, x.fuse(1, 1));
        due("one and the same, that is its own TURN", -1, x.fuse(5, 5));
        due("SAME is its own TURN: BAD before STATE", -1, x.fuse(0, 3));
        due("just the first is its own TURN", -2, x.fuse(5, 1));
        due("just the second is its own TURN", -2, x.fuse(4, 5));
        due("each other's", -2, x.fuse(1, 2));
        due("each other's", -2, x.fuse(4, 3));
        unchanged("fuse", before, x);
    }

    private static void fuseBothTheirOwn() {
        PairTables x = ofKinds(8);
        due("the two highest", 7, x.fuse(7, 6));
        due("KINDS left", 7, x.count(0));
        due("the two lowest", 6, x.fuse(1, 2));
        for (int k = 5; k >= 2; k--) {
            due("one less", k, x.fuse(1, k));
        }
        due("SAME and one other", 2, x.count(0));
        due("SAME and one other", 5, x.count(1));
        due("no two are left", -1, x.fuse(1, 2));
        due("no two are left", -1, x.fuse(1, 1));
        // those that stay in order: 0, 1, {2, 5}, 3, 4, {6} that is 5 now, {7} that is 6 now
        x = ofKinds(8);
        x.turn(3, 7);
        x.turn(4, 6);
        due("in between", 7, x.fuse(5, 2));
        due("3 stays, 7 is 6 now", 64, x.turned(8));
        due("4 stays, 6 is 5 now", 32, x.turned(16));
        due("{2, 5} is its own", 4, x.turned(4));
        due("1 is its own", 2, x.turned(2));
    }

    private static void fuseTurnsToo() {
        // 1' = 4, 2' = 3: 1 and 2 are 1, 4 and 3 are one: the least that it was is 3, that is 2 now; 5 is 3, 6 is 4
        PairTables x = ofKinds(7);
        x.turn(1, 4);
        x.turn(2, 3);
        x.turn(5, 6);
        due("two less", 5, x.fuse(1, 2));
        due("their TURNS become one", 4, x.turned(2));
        due("it turns back", 2, x.turned(4));
        due("those that stay", 16, x.turned(8));
        // 1' = 4, 2' = 3: 1 and 3 are 1, 4 and 2 are one: 2; so in any order
        for (int order = 0; order < 2; order++) {
            x = ofKinds(8);
            x.turn(1, 4);
            x.turn(2, 3);
            x.turn(5, 7);
            due("crossed", 6, order == 0 ? x.fuse(1, 3) : x.fuse(3, 1));
            due("crossed", 4, x.turned(2));
            due("5 is 3, 6 is 4, 7 is 5", 32 + 16, x.turned(8 + 16));
        }
        // by the higher ones: 3 and 4 are their TURNS 2 and 1
        x = ofKinds(5);
        x.turn(1, 4);
        x.turn(2, 3);
        due("by the higher ones", 3, x.fuse(4, 3));
        due("by the higher ones", 4, x.turned(2));
    }

    private static void fuseByOneOfThose() {
        PairTables x = ofKinds(4);
        for (int a = 1; a < 4; a++) {
            for (int b = a; b < 4; b++) {
                for (int c = b; c < 4; c++) {
                    x.triangle(a, b, c, 0);
                }
            }
        }
        x.triangle(1, 2, 3, 1);
        due("1 and 3", 3, x.fuse(1, 3));
        // (1, 2, 3), (2, 3, 1), (3, 1, 2) and back become (1, 2, 1), (2, 1, 1), (1, 1, 2)
        due("MAY BE by (1, 3, 2), and SAME", 4 + 1, x.join(2, 2));
        due("MAY BE by (1, 2, 3)", 2, x.join(2, 4));
        due("MAY BE by (2, 3, 1)", 2, x.join(4, 2));
        due("none of those it was: SAME alone", 1, x.join(4, 4));
        due("those with SAME and three", 7 + 3, x.count(1));
    }

    private static void fuseMakesNew() {
        PairTables x = ofKinds(4);
        x.keep();
        x.points(5);
        x.tell(0, 4, 2);
        readOf(x, 0, "1");
        readOf(x, 3, "x");
        put(x, "c");
        x.narrow(0, 0, 1);
        x.fuse(3, 2);
        due("all are TOLD", 7, x.narrow(-1, 0, 4));
        due("all are TOLD", 7, x.narrow(-1, 1, 2));
        due("TERMS are 0", 0, x.value(0, 7, 7, 7));
        due("TERMS are 0", 0, x.value(3, 7, 7, 7));
        due("bits beyond", -1, x.join(8, 1));
        due("POINTS stay", 5, x.count(2));
        due("THE SHELF stays", 4, x.count(3));
        due("THE DRAFT stays", 1, x.count(4));
        due("THE TRACE stays", 1, x.trace());
    }

    private static void shelfRefused() {
        PairTables x = line();
        x.tell(0, 1, 2);
        readOf(x, 0, "x+b");
        String before = seen(x);
        due("THE SHELF is empty", -2, x.shelf(0));
        due("THE SHELF is empty", -2, x.shelf(1));
        due("BAD before STATE", -1, x.shelf(2));
        due("BAD before STATE", -1, x.shelf(-1));
        unchanged("shelf", before, x);
        x.keep();
        before = seen(x);
        due("too large", -1, x.shelf(2));
        due("too small", -1, x.shelf(-1));
        due("far off", -1, x.shelf(Integer.MIN_VALUE));
        due("far off", -1, x.shelf(Integer.MAX_VALUE));
        due("nine: FULL", -3, x.shelf(1));
        unchanged("shelf", before, x);
    }

    private static void shelfKeeps() {
        PairTables x = new PairTables();
        due("SAME alone", 1, x.keep());
        due("SAME alone is there", 1, x.count(3));
        due("and comes back", 1, x.shelf(0));
        x.kinds(8);
        x.tell(0, 1, 2);
        readOf(x, 0, "h");
        String before = seen(x);
        due("eight", 8, x.keep());
        unchanged("keep, but for THE SHELF", before.replace(" 8 365 3 1 0 ", " 8 365 3 8 0 "), x);
        due("eight instead", 8, x.count(3));
        x.kinds(2);
        due("its KINDS", 2, x.keep());
        due("two instead", 2, x.count(3));
        x.triangle(1, 1, 1, 0);
        x.shelf(0);
        due("what comes to the table later, doesn't come to THE SHELF", 3, x.join(2, 2));
        x.triangle(1, 1, 1, 0);
        x.shelf(0);
        due("nor after it has come back", 3, x.join(2, 2));
    }

    private static void shelfBack() {
        PairTables x = line();
        x.keep();
        x.kinds(8);
        x.points(2);
        x.tell(0, 1, 2);
        readOf(x, 1, "h");
        put(x, "z+");
        x.narrow(0, 0, 1);
        due("its KINDS", 3, x.shelf(0));
        due("its TURNS", 4, x.turned(2));
        due("its TRIANGLES", 13, x.count(1));
        due("all are TOLD then", 7, x.narrow(-1, 0, 1));
        due("TERMS are 0", 0, x.value(1, 7, 7, 7));
        due("POINTS stay", 2, x.count(2));
        due("THE DRAFT stays", 2, x.count(4));
        due("THE TRACE stays", 1, x.trace());
        due("THE SHELF stays", 3, x.count(3));
        x.tell(0, 1, 2);
        readOf(x, 1, "b");
        due("back again, though it is the same", 3, x.shelf(0));
        due("all are TOLD then", 7, x.narrow(-1, 0, 1));
        due("TERMS are 0", 0, x.value(1, 7, 7, 7));
    }

    private static void madeOfTwoNumbers() {
        // of THE SHELF's: 0, 1, 2' = 3; of the table: 0, 1. So (1, s) is 1 + 2 s
        PairTables x = ofKinds(4);
        x.turn(2, 3);
        x.triangle(1, 1, 1, 0);
        x.keep();
        x.kinds(2);
        x.tell(0, 1, 2);
        readOf(x, 0, "b");
        due("just eight", 8, x.shelf(1));
        due("its KINDS", 8, x.count(0));
        due("THE SHELF stays", 4, x.count(3));
        due("all are TOLD then", 255, x.narrow(-1, 0, 1));
        due("TERMS are 0", 0, x.value(0, 255, 255, 255));
        due("(1, 2) and (1, 3)", 128, x.turned(32));
        due("(0, 2) and (0, 3)", 64, x.turned(16));
        due("(1, 1) its own", 8, x.turned(8));
        due("(1, 0) its own", 2, x.turned(2));
        // and the other way: of the table 0, 1, 2' = 3; of THE SHELF's 0, 1. So (p, 1) is p + 4
        x.kinds(2);
        x.keep();
        x.kinds(4);
        x.turn(2, 3);
        due("just eight", 8, x.shelf(1));
        due("(2, 0) and (3, 0)", 8, x.turned(4));
        due("(2, 1) and (3, 1)", 128, x.turned(64));
        due("(1, 1) its own", 32, x.turned(32));
    }

    private static void madeOfTwoByBoth() {
        // the table: (1, 1, 1) can't be. THE SHELF's: the line. (1, s) is 1 + 2 s
        PairTables x = line();
        x.keep();
        x.kinds(2);
        x.triangle(1, 1, 1, 0);
        due("six", 6, x.shelf(1));
        due("(1, 0) and (1, 0): (0, 0) alone", 1, x.join(2, 2));
        due("(0, 1) and (0, 1): (0, 1) alone", 4, x.join(4, 4));
        due("(1, 1) and (1, 1): (0, 1) alone", 4, x.join(8, 8));
        due("(1, 1) and (0, 1): (1, 1) alone", 8, x.join(8, 4));
        due("(1, 1) and (1, 2): (0, 0), (0, 1), (0, 2)", 1 + 4 + 16, x.join(8, 32));
        due("(1, 0) and (0, 1): (1, 1) alone", 8, x.join(2, 4));
        due("TRIANGLES by both: 4 times 13", 52, x.count(1));
        due("SOUND, as both are", -9, x.fault());
    }

    private static void madeOfTwoFull() {
        int[][] pairs = {{2, 4, 8}, {4, 2, 8}, {8, 1, 8}, {1, 8, 8}, {3, 3, -3}, {2, 5, -3}, {5, 2, -3}, {8, 2, -3},
            {2, 8, -3}, {8, 8, -3}, {7, 1, 7}, {2, 3, 6}};
        for (int[] one : pairs) {
            PairTables x = ofKinds(one[1]);
            x.keep();
            x.kinds(one[0]);
            x.tell(0, 1, 0);
            String before = one[0] < 8 ? seen(x) : "";
            due(one[0] + " times " + one[1], one[2], x.shelf(1));
            if (one[2] == -3 && one[0] < 8) {
                unchanged("FULL", before, x);
            }
            due("KINDS then", one[2] > 0 ? one[2] : one[0], x.count(0));
        }
    }

    private static void madeOfOneKind() {
        PairTables x = new PairTables();
        x.keep();
        x.kinds(3);
        x.turn(1, 2);
        x.triangle(1, 1, 2, 0);
        x.tell(0, 1, 2);
        readOf(x, 0, "b");
        due("with SAME alone: as it was", 3, x.shelf(1));
        due("as it was", 4, x.turned(2));
        due("as it was", 2, x.join(2, 2));
        due("but all are TOLD then", 7, x.narrow(-1, 0, 1));
        due("and TERMS are 0", 0, x.value(0, 0, 0, 0));
        x.keep();
        x.kinds(1);
        due("SAME alone with it: THE SHELF's", 3, x.shelf(1));
        due("THE SHELF's", 4, x.turned(2));
        due("THE SHELF's", 2, x.join(2, 2));
    }
}
