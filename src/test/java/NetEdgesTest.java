/** The boundary cases of the net, sentence by sentence: part 2 of 'Terms', promises 11 to 18, and 26. */
public final class NetEdgesTest extends Hand {
    private static final int[] OFF = {Integer.MIN_VALUE, -8, -1, 8, 9, 64, Integer.MAX_VALUE};

    public static void main(String[] args) {
        pointsAreOneToEight();
        pointsRefused();
        pointsFreesAll();
        toldAndItsTurn();
        toldNone();
        tellRefused();
        asToldAddsNothing();
        itselfIsSame();
        fewPoints();
        onceInOrder();
        onceTurnsAtOnce();
        onceStopsWhenVoid();
        fullTillNothingChanges();
        fullStopsWhenVoid();
        tryingGoesRound();
        tryingLooksAtWhatWent();
        tryingStopsWhenVoid();
        tryingTriesByFull();
        tryingTurnsAtOnce();
        tryingTriesSame();
        voidAsTold();
        voidByEachWay();
        narrowRefused();
        isVoidRefused();
        traceStays();
        traceOfAllCalls();
        fillingsOfFewPoints();
        fillingsOfWhatIsTold();
        fillingsOfSingleKinds();
        fillingsWithSame();
        fillingsOfSomeTheSame();
        fillingsOfThreeOfEight();
        fillingsJustNotSpent();
        fillingsSpent();
        fillingsRefused();
        firstByItsPairsInOrder();
        firstOfTurnedPairs();
        firstOfItself();
        firstNoneAndRefused();
        sureOfEachPair();
        sureOfItself();
        sureRefused();
        reasonOfNothingTold();
        reasonOfOnePair();
        reasonTheFewest();
        reasonTheFirst();
        reasonOfPairsTheSame();
        reasonOfTenAndEleven();
        reasonRefused();
        end("NetEdgesTest");
    }

    private static void pointsAreOneToEight() {
        PairTables x = ofKinds(2);
        int were = 3;
        for (int n = 1; n <= 8; n++) {
            due("how many there were", were, x.points(n));
            due("n POINTS", n, x.count(2));
            due("the last one is there", 1, x.narrow(-1, n - 1, n - 1));
            due("the next one is not", -1, x.narrow(-1, n, 0));
            due("the next one is not", -1, x.narrow(-1, 0, n));
            due("the next one is not", -1, x.tell(0, n, 1));
            due("the next one is not", -1, x.first(n, 0));
            due("the next one is not", -1, x.sure(n - 1, n));
            were = n;
        }
        due("from 8 to 1", 8, x.points(1));
        due("1 to 1", 1, x.points(1));
    }

    private static void pointsRefused() {
        PairTables x = line();
        x.tell(0, 1, 2);
        x.tell(1, 2, 0);
        String before = seen(x);
        due("too small", -1, x.points(0));
        due("too large", -1, x.points(9));
        due("below", -1, x.points(-1));
        due("far off", -1, x.points(Integer.MIN_VALUE));
        due("far off", -1, x.points(Integer.MAX_VALUE));
        unchanged("points", before, x);
    }

    private static void pointsFreesAll() {
        PairTables x = line();
        x.tell(0, 1, 2);
        readOf(x, 0, "b");
        due("as many", 3, x.points(3));
        due("all KINDS are TOLD", 7, x.narrow(-1, 0, 1));
        due("all KINDS are TOLD", 7, x.narrow(-1, 1, 0));
        x.points(8);
        x.tell(6, 7, 2);
        x.tell(0, 1, 0);
        x.points(2);
        due("all KINDS are TOLD", 7, x.narrow(-1, 0, 1));
        x.points(8);
        due("of those that come back, too", 7, x.narrow(-1, 6, 7));
        due("TERMS stay", 2, x.value(0, 0, 0, 0));
        due("TRIANGLES stay", 13, x.count(1));
    }

    private static void toldAndItsTurn() {
        PairTables x = line();
        due("what was", 7, x.tell(0, 1, 3));
        due("of j to i its TURN", 5, x.narrow(-1, 1, 0));
        due("what was, the other way round", 5, x.tell(1, 0, 4));
        due("of j to i its TURN", 2, x.narrow(-1, 0, 1));
        due("what was", 2, x.tell(0, 1, 2));
        due("what was, as it is", 2, x.tell(0, 1, 7));
        due("all", 7, x.tell(1, 0, 7));
        x.points(8);
        due("the last two", 7, x.tell(7, 6, 2));
        due("the last two", 4, x.narrow(-1, 6, 7));
        due("no others", 7, x.narrow(-1, 5, 7));
    }

    private static void toldNone() {
        PairTables x = line();
        due("none is a SET", 7, x.tell(0, 1, 0));
        due("none", 0, x.narrow(-1, 0, 1));
        due("its TURN is none", 0, x.narrow(-1, 1, 0));
        due("none was", 0, x.tell(1, 0, 4));
        due("not any more", 2, x.narrow(-1, 0, 1));
        due("not any more", 0, x.isVoid(-1));
        x.kinds(1);
        due("SAME alone", 1, x.tell(0, 1, 0));
        due("none", 0, x.tell(0, 1, 1));
        due("bits beyond", -1, x.tell(0, 1, 2));
    }

    private static void tellRefused() {
        PairTables x = line();
        x.tell(0, 2, 2);
        String before = seen(x);
        for (int i = 0; i < 3; i++) {
            due("one and the same", -1, x.tell(i, i, 1));
            due("one and the same", -1, x.tell(i, i, 7));
        }
        due("no such POINT", -1, x.tell(3, 0, 2));
        due("no such POINT", -1, x.tell(0, 3, 2));
        for (int off : OFF) {
            due("no such POINT", -1, x.tell(off, 1, 2));
            due("no such POINT", -1, x.tell(1, off, 2));
            due("bits beyond", -1, x.tell(0, 1, off));
        }
        due("bits beyond and within", -1, x.tell(0, 1, 10));
        unchanged("tell", before, x);
        x.points(1);
        due("just one POINT", -1, x.tell(0, 0, 1));
        due("just one POINT", -1, x.tell(0, 1, 1));
        x.kinds(8);
        x.points(2);
        due("all eight", 255, x.tell(0, 1, 255));
        due("a ninth", -1, x.tell(0, 1, 256));
    }

    private static void asToldAddsNothing() {
        PairTables x = line();
        x.tell(0, 1, 2);
        x.tell(1, 2, 2);
        due("TOLD", 7, x.narrow(-1, 0, 2));
        due("TOLD", 7, x.narrow(-1, 2, 0));
        due("nothing is asked", 0, x.trace());
        due("ONCE", 2, x.narrow(0, 0, 2));
        due("TOLD stays", 7, x.narrow(-1, 0, 2));
        due("FULL", 4, x.narrow(1, 2, 0));
        due("TRYING", 2, x.narrow(2, 0, 2));
        due("TOLD stays", 7, x.narrow(-1, 0, 2));
        due("what was TOLD", 7, x.tell(0, 2, 7));
    }

    private static void itselfIsSame() {
        PairTables x = line();
        for (int way = -1; way <= 2; way++) {
            for (int i = 0; i < 3; i++) {
                due("of one to itself", 1, x.narrow(way, i, i));
            }
        }
        due("it is asked all the same", 3 * (1 + 11 + 111), x.trace());
        x.tell(0, 1, 0);
        for (int way = -1; way <= 2; way++) {
            due("of one to itself, VOID", 1, x.narrow(way, 1, 1));
        }
    }

    private static void fewPoints() {
        PairTables x = line();
        x.points(1);
        due("one POINT, ONCE", 1, x.narrow(0, 0, 0));
        due("(1)", 1, x.trace());
        due("one POINT, FULL", 1, x.narrow(1, 0, 0));
        due("(10) and (1)", 1 + 11, x.trace());
        due("one POINT, TRYING", 1, x.narrow(2, 0, 0));
        due("(100), (10) and (1)", 12 + 111, x.trace());
        for (int way = -1; way <= 2; way++) {
            due("one POINT is not VOID", 0, x.isVoid(way));
        }
        x.points(2);
        x.tell(0, 1, 6);
        for (int way = -1; way <= 2; way++) {
            due("two POINTS: as TOLD", 6, x.narrow(way, 0, 1));
        }
        due("nothing goes", 123 + 1 + 11 + 111, x.trace());
    }

    /** Each net tells one order of i, j, k from the document's. */
    private static void onceInOrder() {
        // 0 < 1 < 3 < 2: (0, 3) by 1, then (0, 2) by 3
        PairTables x = line();
        x.points(4);
        x.tell(0, 1, 2);
        x.tell(1, 3, 2);
        x.tell(2, 3, 4);
        due("k the fastest", 2, x.narrow(0, 0, 2));
        // 3 < 1 < 2 < 0: (0, 3) is asked by 1 before (0, 1) is known by 2
        x.points(4);
        x.tell(0, 2, 4);
        x.tell(1, 2, 2);
        x.tell(1, 3, 4);
        due("j is not the slowest", 7, x.narrow(0, 0, 3));
        due("by 2", 4, x.narrow(0, 0, 1));
        due("i below k alone", 7, x.narrow(0, 3, 0));
        due("FULL", 4, x.narrow(1, 0, 3));
        // 2 > 3 > 0 > 1: (1, 2) is asked by 0 when (0, 2) is known by 3
        x.points(4);
        x.tell(0, 1, 4);
        x.tell(0, 3, 2);
        x.tell(2, 3, 4);
        due("k is not the slowest", 2, x.narrow(0, 1, 2));
        due("just one ONCE each time", 6, x.trace() - 12);
    }

    private static void onceTurnsAtOnce() {
        // 1 < 3 < 0 < 2: (0, 1) by 3, then (1, 2) by (1, 0)
        PairTables x = line();
        x.points(4);
        x.tell(0, 2, 2);
        x.tell(0, 3, 4);
        x.tell(1, 3, 2);
        due("that of k to i is turned at once", 2, x.narrow(0, 1, 2));
        due("of j to i its TURN", 4, x.narrow(0, 2, 1));
    }

    private static void onceStopsWhenVoid() {
        // 0 < 1 < 3 < 0: (0, 3) goes by 1
        PairTables x = line();
        x.points(4);
        x.tell(0, 1, 2);
        x.tell(0, 3, 4);
        x.tell(1, 3, 2);
        due("it is empty", 0, x.narrow(0, 0, 3));
        due("that of k to i is turned so at once", 0, x.narrow(0, 3, 0));
        due("nothing more is done", 2, x.narrow(0, 0, 1));
        due("nothing more is done", 7, x.narrow(0, 0, 2));
        due("nothing more is done", 2, x.narrow(0, 1, 3));
        due("(1) each time", 5, x.trace());
    }

    private static void fullTillNothingChanges() {
        PairTables x = line();
        due("nothing changes by the first", 7, x.narrow(1, 0, 1));
        due("(10) and one (1)", 11, x.trace());
        x.points(4);
        x.tell(0, 2, 4);
        x.tell(1, 2, 2);
        x.tell(1, 3, 4);
        // the first finds (0, 1) and (2, 3), the second (0, 3), the third nothing
        due("till nothing changes", 4, x.narrow(1, 0, 3));
        due("(10) and three (1)", 11 + 13, x.trace());
        due("each time anew", 2, x.narrow(1, 1, 0));
        due("each time anew", 24 + 13, x.trace());
        x.narrow(0, 0, 1);
        due("ONCE is asked alone", 37 + 1, x.trace());
    }

    private static void fullStopsWhenVoid() {
        PairTables x = line();
        x.tell(0, 1, 2);
        x.tell(1, 2, 2);
        x.tell(0, 2, 4);
        due("it is empty", 0, x.narrow(1, 0, 2));
        due("not once more: (10) and one (1)", 11, x.trace());
        due("nothing more is done", 2, x.narrow(1, 1, 2));
        // found by trial, and Model agrees: VOID by the second ONCE alone
        x = ofKinds(4);
        x.turn(1, 2);
        int[][] barred = {{2, 1, 1}, {2, 3, 1}, {3, 3, 3}, {2, 3, 2}, {3, 2, 3}};
        for (int[] one : barred) {
            x.triangle(one[0], one[1], one[2], 0);
        }
        x.points(4);
        tellAll(x, 14);
        x.tell(0, 1, 2);
        due("ONCE leaves it", 0, x.isVoid(0));
        due("FULL does not", 1, x.isVoid(1));
        x.narrow(1, 0, 1);
        due("not once more: (10) and two (1)", 12, x.trace());
    }

    private static void tryingGoesRound() {
        PairTables x = mixed();
        x.points(5);
        tellAll(x, 6);
        x.tell(0, 1, 2);
        x.tell(0, 2, 2);
        // FULL makes (1, 2) 2; 1 for (0, 3) would have 1, 2, 3 joined by 2 alone
        due("FULL does not see it", 6, x.narrow(1, 0, 3));
        due("FULL", 12, x.trace());
        due("TRYING does", 4, x.narrow(2, 0, 3));
        due("all once more: FULL with two and one ONCE, but one (100)", 12 + 100 + 12 + 11, x.trace());
        due("the same seen from the other", 4, x.narrow(2, 3, 0));
        due("as often", 135 + 123, x.trace());
        x.points(3);
        due("if none went, not once more", 7, x.narrow(2, 0, 1));
        due("(100) and FULL with one", 258 + 111, x.trace());
    }

    /** Found by trial, and Model agrees: were all tried on the net as FULL left it, some would go one round later. */
    private static void tryingLooksAtWhatWent() {
        PairTables x = mixed();
        x.points(5);
        tellAll(x, 6);
        x.tell(0, 2, 4);
        x.tell(0, 3, 4);
        x.tell(0, 4, 2);
        x.tell(2, 4, 4);
        x.narrow(2, 0, 1);
        due("FULL with two, FULL with one", 100 + 12 + 11, x.trace());
        due("what is left", 1, x.fillings(0));
        for (int i = 0; i < 5; i++) {
            for (int j = i + 1; j < 5; j++) {
                due("what is left", x.sure(i, j), x.narrow(2, i, j));
            }
        }
    }

    private static void tryingStopsWhenVoid() {
        // each three in a ring: four points can't be so, whatever KIND any pair has
        PairTables x = ofKinds(3);
        x.turn(1, 2);
        x.triangle(1, 1, 1, 0);
        x.points(4);
        tellAll(x, 6);
        due("FULL leaves it", 0, x.isVoid(1));
        due("TRYING does not", 1, x.isVoid(2));
        due("both KINDS of the first pair go", 0, x.narrow(2, 0, 1));
        due("and so those of 1 to 0", 0, x.narrow(2, 1, 0));
        due("nothing more is done", 6, x.narrow(2, 0, 2));
        due("nothing more is done", 6, x.narrow(2, 2, 3));
        due("not once more: (100) and FULL with one", 4 * 111, x.trace());
        // VOID by FULL already: (0, 2) is asked first
        x.points(3);
        x.tell(0, 1, 2);
        x.tell(0, 2, 2);
        x.tell(1, 2, 2);
        due("empty by FULL", 0, x.narrow(2, 0, 2));
        due("nothing more is done", 2, x.narrow(2, 0, 1));
        due("nothing more is done", 2, x.narrow(2, 1, 2));
        due("(100) and FULL with one", 444 + 3 * 111, x.trace());
    }

    /** Found by trial, and Model agrees: by ONCE alone SAME would stay for (0, 3). */
    private static void tryingTriesByFull() {
        PairTables x = mixed();
        x.points(4);
        x.tell(0, 1, 5);
        x.tell(0, 2, 6);
        x.tell(1, 2, 4);
        x.tell(1, 3, 5);
        x.tell(2, 3, 6);
        int left = x.narrow(2, 0, 3);
        due("FULL for each trial", 5, left);
        due("its trials are not traced", 122, x.trace());
        due("FULL alone leaves more", 7, x.narrow(1, 0, 3));
    }

    private static void tryingTurnsAtOnce() {
        // as a ring of five with 1, 2 beside 4: (1, 4) and (0, 4) are 1, so (2, 4) and (3, 4) go to 2
        PairTables x = mixed();
        x.points(5);
        tellAll(x, 6);
        x.tell(0, 4, 2);
        x.tell(1, 4, 2);
        due("of i to k", 4, x.narrow(2, 2, 4));
        due("of k to i", 4, x.narrow(2, 4, 2));
        due("of k to i", 4, x.narrow(2, 4, 3));
        // found by trial, and Model agrees: 3 goes for (1, 2), by TRYING alone, and leaves 2, whose TURN is 1
        x = ofKinds(4);
        x.turn(1, 2);
        x.triangle(1, 1, 1, 0);
        x.triangle(1, 1, 2, 0);
        x.triangle(3, 3, 3, 0);
        x.triangle(1, 3, 3, 0);
        x.points(4);
        tellAll(x, 14);
        x.tell(0, 3, 4);
        x.tell(1, 2, 12);
        due("FULL leaves it", 12, x.narrow(1, 1, 2));
        due("of i to k", 4, x.narrow(2, 1, 2));
        due("of k to i", 2, x.narrow(2, 2, 1));
        for (int i = 0; i < 4; i++) {
            for (int k = i + 1; k < 4; k++) {
                due("its TURN", x.turned(x.narrow(2, i, k)), x.narrow(2, k, i));
            }
        }
    }

    /** Found by trial, and Model agrees: SAME for (0, 2) goes by TRYING alone. */
    private static void tryingTriesSame() {
        PairTables x = mixed();
        x.points(4);
        x.tell(0, 1, 3);
        x.tell(0, 3, 3);
        x.tell(1, 2, 6);
        x.tell(1, 3, 5);
        x.tell(2, 3, 5);
        due("FULL leaves SAME", 7, x.narrow(1, 0, 2));
        due("TRYING does not", 6, x.narrow(2, 0, 2));
        due("TRYING does not", 6, x.narrow(2, 2, 0));
        due("nor has it a FILLING", 6, x.sure(0, 2));
    }

    private static void voidAsTold() {
        PairTables x = line();
        x.points(4);
        x.tell(0, 1, 2);
        x.tell(1, 2, 2);
        x.tell(2, 3, 0);
        for (int way = -1; way <= 2; way++) {
            due("VOID as it is TOLD", 1, x.isVoid(way));
        }
        due("isVoid is not traced", 0, x.trace());
        for (int way = -1; way <= 2; way++) {
            due("nothing more is done", 7, x.narrow(way, 0, 2));
            due("it is empty", 0, x.narrow(way, 3, 2));
        }
        due("the asked bodies alone", 2 * (1 + 10 + 100), x.trace());
        x.points(2);
        x.tell(0, 1, 0);
        due("two POINTS", 1, x.isVoid(-1));
        due("two POINTS", 1, x.isVoid(2));
    }

    private static void voidByEachWay() {
        PairTables x = line();
        x.tell(0, 1, 2);
        x.tell(1, 2, 2);
        for (int way = -1; way <= 2; way++) {
            due("not VOID", 0, x.isVoid(way));
        }
        x.tell(2, 0, 2);
        due("not as it is TOLD", 0, x.isVoid(-1));
        for (int way = 0; way <= 2; way++) {
            due("VOID", 1, x.isVoid(way));
        }
        due("isVoid is not traced", 0, x.trace());
        due("nor does it change what is TOLD", 4, x.narrow(-1, 0, 2));
    }

    private static void narrowRefused() {
        PairTables x = line();
        x.tell(0, 1, 2);
        x.narrow(0, 0, 1);
        String before = seen(x);
        due("too small a WAY", -1, x.narrow(-2, 0, 1));
        due("too large a WAY", -1, x.narrow(3, 0, 1));
        due("far off", -1, x.narrow(Integer.MIN_VALUE, 0, 1));
        due("far off", -1, x.narrow(Integer.MAX_VALUE, 0, 1));
        for (int way = -1; way <= 2; way++) {
            due("no such POINT", -1, x.narrow(way, 3, 0));
            due("no such POINT", -1, x.narrow(way, 0, 3));
            due("no such POINT", -1, x.narrow(way, 3, 3));
            for (int off : OFF) {
                due("no such POINT", -1, x.narrow(way, off, 1));
                due("no such POINT", -1, x.narrow(way, 1, off));
            }
        }
        unchanged("narrow, its trace too", before, x);
    }

    private static void isVoidRefused() {
        PairTables x = line();
        x.tell(0, 1, 0);
        String before = seen(x);
        due("too small", -1, x.isVoid(-2));
        due("too large", -1, x.isVoid(3));
        due("far off", -1, x.isVoid(Integer.MIN_VALUE));
        due("far off", -1, x.isVoid(Integer.MAX_VALUE));
        unchanged("isVoid", before, x);
    }

    private static void traceStays() {
        PairTables x = line();
        x.narrow(2, 0, 1);
        due("asked", 111, x.trace());
        x.isVoid(0);
        x.isVoid(1);
        x.isVoid(2);
        x.fillings(0);
        x.fillings(1);
        x.first(0, 1);
        x.sure(0, 1);
        x.reason(0);
        x.carried(3, 1);
        x.narrow(-1, 0, 1);
        x.narrow(2, 0, 3);
        due("by narrow() alone", 111, x.trace());
        x.tell(0, 1, 2);
        x.triangle(1, 1, 1, 0);
        x.points(2);
        x.turn(1, 1);
        x.keep();
        x.kinds(3);
        x.fuse(1, 2);
        x.shelf(0);
        x.kinds(1);
        due("it never becomes less", 111, x.trace());
        x.points(8);
        x.narrow(0, 0, 1);
        due("and goes on", 112, x.trace());
    }

    /** An object is used for at most 512 calls: the last of them. */
    private static void traceOfAllCalls() {
        PairTables x = new PairTables();
        for (int call = 1; call < 512; call++) {
            x.narrow(2, 0, 1);
        }
        due("the 512th call", 511 * 111, x.trace());
    }

    private static void fillingsOfFewPoints() {
        for (int k = 1; k <= 8; k++) {
            PairTables x = ofKinds(k);
            x.points(1);
            due("one POINT", 1, x.fillings(0));
            due("one POINT", 1, x.fillings(1));
            x.points(2);
            due("two POINTS: each KIND", k, x.fillings(0));
            x.tell(0, 1, 0);
            due("two POINTS, none", 0, x.fillings(0));
            due("two POINTS, none", 0, x.fillings(1));
            x.points(3);
            due("three POINTS: each TRIANGLE", x.count(1), x.fillings(0));
        }
        PairTables x = ofKinds(1);
        x.points(8);
        due("SAME alone", 1, x.fillings(0));
        x.tell(3, 7, 0);
        due("SAME alone, none", 0, x.fillings(0));
    }

    private static void fillingsOfWhatIsTold() {
        PairTables x = line();
        x.tell(1, 0, 4);
        x.tell(0, 2, 6);
        due("0 before 1, 2 apart from 0", 4, x.fillings(0));
        x.tell(1, 2, 5);
        due("2 at 1, or before it", 3, x.fillings(0));
        x.tell(1, 2, 7);
        x.tell(0, 2, 2);
        due("0 before both", 3, x.fillings(0));
        due("there is one", 1, x.fillings(1));
        x.tell(1, 2, 0);
        due("none", 0, x.fillings(0));
        due("none", 0, x.fillings(1));
        x.tell(1, 2, 1);
        x.tell(0, 2, 4);
        due("1 and 2 together, but apart from 0", 0, x.fillings(0));
        due("1 and 2 together, but apart from 0", 0, x.fillings(1));
        due("what is TOLD stays", 4, x.tell(0, 2, 7));
    }

    /** Eight in order; each pair told otherwise once. */
    private static void fillingsOfSingleKinds() {
        PairTables x = line();
        x.points(8);
        tellAll(x, 2);
        due("in order", 1, x.fillings(0));
        for (int i = 0; i < 8; i++) {
            for (int k = i + 1; k < 8; k++) {
                x.tell(i, k, 4);
                due("the other way round: neighbours alone", k == i + 1 ? 1 : 0, x.fillings(0));
                x.tell(i, k, 1);
                due("together: neighbours alone", k == i + 1 ? 1 : 0, x.fillings(1));
                due("together: neighbours alone", k == i + 1 ? 1 : 0, x.sure(i, k));
                x.tell(i, k, 7);
                due("free: all three, or before", k == i + 1 ? 3 : 1, x.fillings(0));
                x.tell(i, k, 2);
            }
        }
    }

    /** Two sorts of points: 1 between unlike ones. */
    private static void fillingsWithSame() {
        PairTables x = ofKinds(2);
        x.triangle(1, 1, 1, 0);
        x.points(4);
        due("two sorts, or one", 8, x.fillings(0));
        x.tell(0, 1, 2);
        x.tell(1, 2, 2);
        due("0 and 2 are of one sort, 3 is of either", 2, x.fillings(0));
        due("SAME comes of two", 1, x.sure(0, 2));
        x.tell(0, 3, 2);
        due("3 is of the other sort", 1, x.fillings(0));
        due("so 1 and 3 are of one", 0, x.first(1, 3));
        x.tell(2, 3, 1);
        due("2 and 3 are not of one sort", 0, x.fillings(0));
        due("four pairs", 4, x.reason(0));
        x.points(3);
        due("two sorts of three", 4, x.fillings(0));
        x.tell(0, 2, 2);
        x.tell(1, 2, 2);
        due("0 and 1 are of one sort", 1, x.fillings(0));
        x.points(8);
        due("two sorts of eight", 128, x.fillings(0));
        for (int i = 0; i < 7; i++) {
            x.tell(i, i + 1, 2);
        }
        due("by turns", 1, x.fillings(0));
        due("by turns", 1, x.first(0, 7));
        due("by turns", 0, x.first(1, 7));
    }

    /** Points that are the same, or not: by how many ways they fall into so many that are unlike. */
    private static void fillingsOfSomeTheSame() {
        // of 1, 2, 3, 4, 5 unlike ones there are 1, 2, 6, 18, 12
        PairTables x = mixed();
        x.points(5);
        due("1 of one, 15 of two, 25 of three, 10 of four, 1 of five", 1 + 30 + 150 + 180 + 12, x.fillings(0));
        x.tell(3, 4, 6);
        due("but those with 3 and 4 the same: 1, 7, 6 and 1", 373 - 1 - 14 - 36 - 18, x.fillings(0));
        // all MAY BE: 1, 2 and 3 are unlike, 0 is like one of them, or like none
        x = ofKinds(3);
        x.points(4);
        x.tell(1, 3, 4);
        x.tell(2, 3, 2);
        due("2 for (1, 2), 3 and 8 for 0", 22, x.fillings(0));
    }

    /** Eight in order, but three neighbours free. */
    private static void fillingsOfThreeOfEight() {
        PairTables x = line();
        x.points(8);
        for (int i = 0; i < 6; i++) {
            tellAll(x, 2);
            x.tell(i, i + 1, 7);
            x.tell(i, i + 2, 7);
            x.tell(i + 1, i + 2, 7);
            due("three in any order", 13, x.fillings(0));
            due("three in any order", 7, x.sure(i, i + 2));
            due("three in any order", 7, x.sure(i + 2, i));
            due("three in any order", 7, x.sure(i + 2, i + 1));
        }
    }

    /**
     * Each without SAME MAY BE, so that sets without SAME are multiplied: for (0, j) and (1, j) 5 and 1 four times,
     * 2 and 2 two times, 2 for (0, 1): 20000. With SAME for (0, 1) those of 0 and 1 are alike: 1 more.
     */
    private static PairTables twentyThousand() {
        PairTables x = ofKinds(8);
        x.points(8);
        tellAll(x, 128);
        for (int j = 2; j < 6; j++) {
            x.tell(0, j, 62);
            x.tell(1, j, 32);
        }
        for (int j = 6; j < 8; j++) {
            x.tell(0, j, 6);
            x.tell(1, j, 12);
        }
        x.tell(0, 1, 6);
        return x;
    }

    private static void fillingsJustNotSpent() {
        PairTables x = twentyThousand();
        due("20000", 20000, x.fillings(0));
        due("20000: SURE", 6, x.sure(0, 1));
        due("20000: SURE", 62, x.sure(0, 5));
        due("20000: SURE", 1, x.sure(3, 3));
        due("20000: FIRST", 1, x.first(0, 1));
        x.tell(0, 1, 1);
        due("with SAME for (0, 1)", 1, x.fillings(0));
        due("what both have", 4, x.sure(0, 7));
    }

    private static void fillingsSpent() {
        PairTables x = twentyThousand();
        x.tell(0, 1, 7);
        String before = x.narrow(-1, 0, 1) + " " + x.trace();
        due("20001", -5, x.fillings(0));
        due("20001: SURE", -5, x.sure(0, 1));
        due("20001: SURE of one to itself", -5, x.sure(7, 7));
        due("whether there is one is not SPENT", 1, x.fillings(1));
        due("FIRST is not SPENT", 0, x.first(0, 1));
        due("FIRST is not SPENT", 2, x.first(0, 7));
        due("REASON is not SPENT", -2, x.reason(0));
        due("nothing changes", 1, before.equals(x.narrow(-1, 0, 1) + " " + x.trace()) ? 1 : 0);
        x.tell(0, 1, 6);
        due("20000 again", 20000, x.fillings(0));
        x.tell(0, 1, 14);
        due("30000", -5, x.fillings(0));
        x = ofKinds(8);
        x.points(8);
        due("all free", -5, x.fillings(0));
        due("all free", 1, x.fillings(1));
        due("all free", -5, x.sure(6, 7));
        due("all free: SAME", 0, x.first(6, 7));
        x.tell(6, 7, 128);
        due("all free but one", 7, x.first(6, 7));
        due("all free but one", 0, x.first(5, 6));
        due("all free but one", 7, x.first(0, 7));
    }

    private static void fillingsRefused() {
        PairTables x = ofKinds(4);
        x.points(8);
        String before = seen(x);
        due("BAD before SPENT", -1, x.fillings(2));
        due("BAD before SPENT", -1, x.fillings(-1));
        due("far off", -1, x.fillings(Integer.MIN_VALUE));
        due("far off", -1, x.fillings(Integer.MAX_VALUE));
        due("SPENT", -5, x.fillings(0));
        unchanged("fillings", before, x);
    }

    private static void firstByItsPairsInOrder() {
        // 0, 1 and 2 on a line, 0 and 2 apart: (0, 1) together is the least of (0, 1), then 0 before 2
        PairTables x = line();
        x.tell(0, 2, 6);
        due("(0, 1) first", 0, x.first(0, 1));
        due("(0, 2) then", 1, x.first(0, 2));
        due("(1, 2) last", 1, x.first(1, 2));
        // (0, 1) low makes (0, 2) high; the other way round it could be low
        x.tell(0, 1, 6);
        x.tell(1, 2, 2);
        x.tell(0, 2, 5);
        due("(0, 1) before (0, 2)", 2, x.first(0, 1));
        x.tell(0, 2, 7);
        due("(0, 1) before (0, 2)", 1, x.first(0, 1));
        due("(0, 1) before (0, 2)", 1, x.first(0, 2));
        // 0 and 2 together, 1 after both
        x.points(3);
        x.tell(0, 1, 6);
        x.tell(1, 2, 6);
        due("(0, 1) is 1", 1, x.first(0, 1));
        due("(0, 2) is SAME then", 0, x.first(0, 2));
        due("(1, 2) must be 2", 2, x.first(1, 2));
        // 1 before 0 and 2, these together; 3 not at 2: after it
        x.points(4);
        x.tell(0, 1, 4);
        x.tell(1, 3, 3);
        x.tell(2, 3, 6);
        int[][] due = {{0, 2, 0, 1}, {1, 0, 1, 1}, {0, 2, 0, 1}, {2, 2, 2, 0}};
        for (int i = 0; i < 4; i++) {
            for (int j = 0; j < 4; j++) {
                due("(" + i + ", " + j + ")", due[i][j], x.first(i, j));
            }
        }
        // all MAY BE: 0 is unlike the others, 1 is 2, 3 is not
        x = ofKinds(3);
        x.points(4);
        for (int j = 1; j < 4; j++) {
            x.tell(0, j, 6);
        }
        x.tell(2, 3, 6);
        due("(1, 2) is SAME at the least", 0, x.first(1, 2));
        due("(1, 3) is as (2, 3)", 1, x.first(1, 3));
        // 0 and 1 by 1, 1 and 2 by 2: 2 is unlike 0; 3 is 1 at the least, after (0, 3) has become 1
        x.points(4);
        x.tell(0, 1, 2);
        x.tell(1, 2, 4);
        x.tell(2, 3, 5);
        due("(0, 2) can't be SAME", 1, x.first(0, 2));
        due("(0, 3) can't be SAME", 1, x.first(0, 3));
        due("(1, 3) is SAME at the least", 0, x.first(1, 3));
        due("(2, 3) must be 2", 2, x.first(2, 3));
        // four points, KINDS without SAME free: (0, 3) and (1, 2) can't both be 1
        x = ofKinds(3);
        x.points(4);
        tellAll(x, 6);
        for (int b = 1; b < 3; b++) {
            x.triangle(1, 1, b, 0);
        }
        due("pairs in order", 1, x.first(0, 1));
        due("1 and 1 never meet: (0, 2)", 2, x.first(0, 2));
        due("(0, 3)", 2, x.first(0, 3));
        due("(1, 2)", 2, x.first(1, 2));
        due("(1, 3)", 2, x.first(1, 3));
        due("(2, 3) may have 1 again", 1, x.first(2, 3));
    }

    private static void firstOfTurnedPairs() {
        PairTables x = line();
        x.tell(1, 0, 6);
        due("KINDS of i below j rise", 1, x.first(0, 1));
        due("of j to i", 2, x.first(1, 0));
        x.points(2);
        x.tell(0, 1, 6);
        due("of two POINTS", 1, x.first(0, 1));
        due("of two POINTS, the other way round", 2, x.first(1, 0));
        x = ofKinds(8);
        x.points(2);
        x.turn(6, 7);
        x.tell(1, 0, 64);
        due("the highest", 7, x.first(0, 1));
        due("its TURN", 6, x.first(1, 0));
    }

    private static void firstOfItself() {
        PairTables x = line();
        x.tell(0, 1, 6);
        for (int i = 0; i < 3; i++) {
            due("SAME alone", 0, x.first(i, i));
        }
        x.points(1);
        due("one POINT", 0, x.first(0, 0));
        x.points(2);
        x.tell(0, 1, 0);
        due("no FILLING", -9, x.first(0, 0));
    }

    private static void firstNoneAndRefused() {
        PairTables x = line();
        x.tell(0, 1, 2);
        x.tell(1, 2, 2);
        x.tell(2, 0, 2);
        String before = seen(x);
        for (int i = 0; i < 3; i++) {
            due("NONE", -9, x.first(i, (i + 1) % 3));
            due("NONE", -9, x.first((i + 1) % 3, i));
            due("no such POINT: BAD before NONE", -1, x.first(i, 3));
            due("no such POINT: BAD before NONE", -1, x.first(3, i));
        }
        for (int off : OFF) {
            due("no such POINT", -1, x.first(off, 0));
            due("no such POINT", -1, x.first(0, off));
        }
        unchanged("first", before, x);
        x.tell(2, 0, 7);
        due("there is one again", 1, x.first(0, 2));
    }

    private static void sureOfEachPair() {
        PairTables x = line();
        x.tell(0, 1, 2);
        x.tell(1, 2, 3);
        due("in some FILLING", 3, x.sure(1, 2));
        due("of j to i", 5, x.sure(2, 1));
        due("just one", 2, x.sure(0, 2));
        x.tell(0, 2, 4);
        due("in no FILLING", 0, x.sure(0, 1));
        due("in no FILLING", 0, x.sure(2, 0));
        x.points(2);
        due("two POINTS: all", 7, x.sure(0, 1));
        x.points(3);
        for (int i = 0; i < 3; i++) {
            for (int j = 0; j < 3; j++) {
                due("all free", i == j ? 1 : 7, x.sure(i, j));
            }
        }
        // what FULL and TRYING leave may be more than what is SURE, never less
        x = mixed();
        x.points(5);
        tellAll(x, 6);
        due("rings of five: either", 6, x.sure(2, 4));
        x.tell(0, 1, 2);
        x.tell(0, 2, 2);
        due("rings of five", 4, x.sure(1, 2));
        due("rings of five", 4, x.sure(0, 4));
    }

    private static void sureOfItself() {
        PairTables x = line();
        for (int i = 0; i < 3; i++) {
            due("SAME alone", 1, x.sure(i, i));
        }
        x.tell(0, 1, 0);
        for (int i = 0; i < 3; i++) {
            due("no FILLING", 0, x.sure(i, i));
        }
        x.points(1);
        due("one POINT", 1, x.sure(0, 0));
        x.points(7);
        due("SPENT", -5, x.sure(6, 6));
    }

    private static void sureRefused() {
        PairTables x = line();
        x.points(7);
        String before = seen(x);
        due("SPENT", -5, x.sure(0, 6));
        due("BAD before SPENT", -1, x.sure(0, 7));
        due("BAD before SPENT", -1, x.sure(7, 0));
        for (int off : OFF) {
            due("BAD before SPENT", -1, x.sure(off, 0));
            due("BAD before SPENT", -1, x.sure(0, off));
        }
        unchanged("sure", before, x);
    }

    private static void reasonOfNothingTold() {
        PairTables x = line();
        for (int n = 1; n <= 8; n++) {
            x.points(n);
            due("nothing is TOLD", -9, x.reason(0));
            due("nothing is TOLD", -9, x.reason(1));
        }
        x.tell(0, 1, 7);
        due("all KINDS are TOLD", -9, x.reason(1));
    }

    private static void reasonOfOnePair() {
        PairTables x = line();
        x.points(2);
        x.tell(0, 1, 0);
        due("one pair", 1, x.reason(0));
        due("bit 0", 1, x.reason(1));
        x.points(8);
        x.tell(0, 1, 2);
        x.tell(6, 7, 0);
        due("the second such pair", 1, x.reason(0));
        due("bit 1", 2, x.reason(1));
        x.tell(0, 7, 0);
        due("the first of them now", 2, x.reason(1));
        x.tell(0, 1, 0);
        due("the first of them now", 1, x.reason(1));
        // a KIND that can't stand with three POINTS is no REASON by itself: the third may be SAME as one of them
        x = mixed();
        x.triangle(1, 1, 2, 0);
        x.triangle(1, 2, 2, 0);
        x.tell(0, 1, 2);
        due("two POINTS that are the same", -9, x.reason(0));
    }

    private static void reasonTheFewest() {
        PairTables x = line();
        x.points(4);
        // 0 < 1 < 2 < 3 < 0 is four; 0 < 1 < 2 and 2 < 0 would be three
        x.tell(0, 1, 2);
        x.tell(1, 2, 2);
        x.tell(2, 3, 2);
        x.tell(0, 3, 4);
        due("four", 4, x.reason(0));
        due("all four", 15, x.reason(1));
        x.tell(0, 2, 6);
        due("still four", 4, x.reason(0));
        x.tell(0, 2, 4);
        // such pairs: (0, 1) 1, (0, 2) 2, (0, 3) 4, (1, 2) 8, (2, 3) 16
        due("three of five", 3, x.reason(0));
        due("(0, 1), (0, 2), (1, 2)", 1 + 2 + 8, x.reason(1));
        x.tell(1, 3, 0);
        due("one of six", 1, x.reason(0));
        due("(1, 3)", 16, x.reason(1));
        x.tell(0, 1, 7);
        due("one of five: the bits are those of such pairs alone", 8, x.reason(1));
    }

    private static void reasonTheFirst() {
        // two of three pairs each: {0, 3} would be first by its first pair, {1, 2} is less as a number
        PairTables x = line();
        x.points(4);
        // such pairs: (0, 1) bit 0, (0, 2) bit 1, (0, 3) bit 2, (1, 2) bit 3, (2, 3) bit 4
        x.tell(0, 1, 2);
        x.tell(1, 2, 2);
        x.tell(0, 2, 4);
        x.tell(2, 3, 4);
        x.tell(0, 3, 2);
        due("of two", 3, x.reason(0));
        due("the first set", 1 + 2 + 8, x.reason(1));
        x.tell(0, 1, 7);
        // (0, 2) bit 0, (0, 3) bit 1, (1, 2) bit 2, (2, 3) bit 3
        due("the other one alone", 1 + 2 + 8, x.reason(1));
    }

    private static void reasonOfPairsTheSame() {
        // all MAY BE: 2 and 3 are the same, but 0 is not alike to both; (0, 1) bit 0 has nothing to do with it
        PairTables x = ofKinds(3);
        x.points(4);
        x.tell(0, 1, 4);
        x.tell(0, 2, 2);
        x.tell(0, 3, 4);
        x.tell(2, 3, 1);
        due("(0, 2), (0, 3), (2, 3)", 2 + 4 + 8, x.reason(1));
        // 1, 2 and 3 are the same, but 1 and 3 are not; (0, 1) and (0, 3) are bits 0 and 1
        x.points(4);
        x.tell(0, 1, 2);
        x.tell(0, 3, 2);
        x.tell(1, 2, 1);
        x.tell(1, 3, 4);
        x.tell(2, 3, 1);
        due("(1, 2), (1, 3), (2, 3)", 4 + 8 + 16, x.reason(1));
        // two sorts of points: 2 is of that of 1, and so is 3, but 3 is not of that of 2
        x = ofKinds(2);
        x.triangle(1, 1, 1, 0);
        x.points(4);
        x.tell(1, 2, 1);
        x.tell(1, 3, 1);
        x.tell(2, 3, 2);
        due("all three", 7, x.reason(1));
        x.points(5);
        x.tell(0, 1, 1);
        x.tell(0, 3, 1);
        x.tell(1, 3, 2);
        x.tell(3, 4, 1);
        due("the first three of four", 7, x.reason(1));
    }

    private static void reasonOfTenAndEleven() {
        PairTables x = line();
        x.points(5);
        tellAll(x, 2);
        due("ten, with a FILLING", -9, x.reason(0));
        x.tell(3, 4, 0);
        due("ten, without one", 1, x.reason(0));
        due("the tenth", 1 << 9, x.reason(1));
        x.tell(3, 4, 4);
        x.tell(0, 4, 4);
        due("ten, without one", 3, x.reason(0));
        x.points(6);
        for (int j = 1; j < 6; j++) {
            x.tell(0, j, 2);
        }
        for (int j = 2; j < 6; j++) {
            x.tell(1, j, 2);
        }
        x.tell(4, 5, 2);
        due("ten of fifteen", -9, x.reason(0));
        x.tell(3, 4, 6);
        due("eleven, with a FILLING", -2, x.reason(0));
        due("eleven, with a FILLING", -2, x.reason(1));
        x.tell(3, 4, 0);
        due("eleven, without one", -2, x.reason(1));
        x.tell(4, 5, 7);
        due("ten again", 1, x.reason(0));
        due("the tenth", 1 << 9, x.reason(1));
        x.kinds(1);
        x.points(8);
        tellAll(x, 1);
        due("SAME alone is all", -9, x.reason(0));
        tellAll(x, 0);
        due("28", -2, x.reason(0));
    }

    private static void reasonRefused() {
        PairTables x = line();
        due("too large", -1, x.reason(2));
        due("too small", -1, x.reason(-1));
        due("far off", -1, x.reason(Integer.MAX_VALUE));
        x.points(8);
        tellAll(x, 2);
        String before = seen(x);
        due("28", -2, x.reason(0));
        due("BAD before STATE", -1, x.reason(2));
        due("BAD before STATE", -1, x.reason(-1));
        due("BAD before STATE", -1, x.reason(Integer.MIN_VALUE));
        unchanged("reason", before, x);
    }
}
