/** Each promise by small cases that are worked out by hand: ordinary ones and wrong ones. */
public final class PromiseTest extends Hand {
    public static void main(String[] args) {
        constants();
        newObject();
        kinds();
        turn();
        triangle();
        joinAndTurned();
        fault();
        fuse();
        shelf();
        points();
        tell();
        narrowOnceAndFull();
        narrowTrying();
        narrowVoid();
        fillings();
        first();
        sure();
        reason();
        type();
        read();
        readLimits();
        value();
        against();
        carried();
        count();
        trace();
        whatTheNetAndTermsOutlive();
        end("PromiseTest");
    }

    private static void constants() {
        due("BAD", -1, PairTables.BAD);
        due("STATE", -2, PairTables.STATE);
        due("FULL", -3, PairTables.FULL);
        due("SPENT", -5, PairTables.SPENT);
        due("NONE", -9, PairTables.NONE);
    }

    private static void newObject() {
        PairTables x = new PairTables();
        due("P1 kinds", 1, x.count(0));
        due("P1 triangles", 1, x.count(1));
        due("P1 points", 3, x.count(2));
        due("P1 shelf", 0, x.count(3));
        due("P1 draft", 0, x.count(4));
        due("P1 trace", 0, x.trace());
        due("P1 told", 1, x.narrow(-1, 0, 1));
        due("P1 fillings", 1, x.fillings(0));
        due("P1 sound", -9, x.fault());
        due("P1 term", 0, x.value(3, 1, 1, 1));
        due("P1 join", 1, x.join(1, 1));
    }

    private static void kinds() {
        PairTables x = line();
        x.tell(0, 1, 2);
        readOf(x, 0, "b");
        put(x, "x+");
        due("P2 kinds 0", -1, x.kinds(0));
        due("P2 kinds 9", -1, x.kinds(9));
        due("P2 nothing has changed", 2, x.value(0, 0, 0, 0));
        due("P2 nothing has changed", 2, x.narrow(-1, 0, 1));
        due("P2 kinds 3", 3, x.kinds(3));
        due("P2 its own turn", 2, x.turned(2));
        due("P2 all triangles", 15, x.count(1));
        due("P2 told again", 7, x.narrow(-1, 0, 1));
        due("P2 term 0", 0, x.value(0, 7, 7, 7));
        due("P2 draft stays", 2, x.count(4));
        due("P2 kinds 8", 3, x.kinds(8));
        due("P2 triangles of 8", 343 + 22, x.count(1));
        due("P2 kinds 1", 8, x.kinds(1));
        due("P2 points stay", 3, x.count(2));
    }

    private static void turn() {
        PairTables x = new PairTables();
        x.kinds(5);
        due("P3 SAME", -1, x.turn(0, 1));
        due("P3 SAME", -1, x.turn(1, 0));
        due("P3 beyond", -1, x.turn(1, 5));
        due("P3 below", -1, x.turn(-1, 1));
        x.triangle(3, 3, 3, 0);
        x.tell(0, 1, 2);
        readOf(x, 0, "b");
        due("P3 turn", 1, x.turn(1, 2));
        due("P3 turned", 4, x.turned(2));
        due("P3 turned", 2, x.turned(4));
        due("P3 triangles all may be", 64 + 13, x.count(1));
        due("P3 told", 31, x.narrow(-1, 0, 1));
        due("P3 terms stay", 2, x.value(0, 0, 0, 0));
        due("P3 SAME by the turn", 31, x.join(2, 4));
        due("P3 no SAME", 30, x.join(2, 2));
        due("P3 another", 1, x.turn(3, 2));
        due("P3 former its own", 2, x.turned(2));
        due("P3 new", 8, x.turned(4));
        due("P3 one and the same", 1, x.turn(3, 3));
        due("P3 both their own", 12, x.turned(12));
        due("P3 both their own", 4, x.turned(4));
    }

    private static void triangle() {
        PairTables x = new PairTables();
        x.kinds(4);
        x.turn(1, 2);
        due("P4 SAME first", -1, x.triangle(0, 1, 1, 0));
        due("P4 SAME second", -1, x.triangle(1, 0, 1, 0));
        due("P4 SAME third", -1, x.triangle(1, 2, 0, 0));
        due("P4 beyond", -1, x.triangle(1, 2, 4, 0));
        due("P4 is 2", -1, x.triangle(1, 2, 3, 2));
        due("P4 is -1", -1, x.triangle(1, 2, 3, -1));
        due("P4 all", 27 + 10, x.count(1));
        due("P4 it might", 1, x.triangle(1, 3, 1, 0));
        due("P4 not any more", 0, x.triangle(1, 3, 1, 0));
        // (1, 3, 1): (1, 3, 1), (2, 1, 3), (3, 2, 2), (2, 1, 3), (3, 2, 2) by turns 1' = 2, 3' = 3
        due("P4 all the same ones", 27 + 10 - 3, x.count(1));
        due("P4 seen from the others", 0, x.triangle(2, 1, 3, 0));
        due("P4 seen from the others", 0, x.triangle(3, 2, 2, 1));
        due("P4 back", 27 + 10, x.count(1));
        x.triangle(1, 1, 1, 0);
        due("P4 five unlike ones", 27 + 10 - 6, x.count(1));
        due("P4 told stays", 15, x.narrow(-1, 0, 1));
    }

    private static void joinAndTurned() {
        PairTables x = line();
        due("P5 one", 2, x.join(2, 2));
        due("P5 both ways", 7, x.join(2, 4));
        due("P5 SAME", 4, x.join(1, 4));
        due("P5 SAME", 4, x.join(4, 1));
        due("P5 sets", 6, x.join(1, 6));
        due("P5 of none", 0, x.join(0, 7));
        due("P5 with none", 0, x.join(7, 0));
        due("P5 beyond", -1, x.join(8, 1));
        due("P5 beyond", -1, x.join(1, 8));
        due("P5 below", -1, x.join(-1, 1));
        due("P6 none", 0, x.turned(0));
        due("P6 two", 5, x.turned(3));
        due("P6 all", 7, x.turned(7));
        due("P6 beyond", -1, x.turned(8));
        due("P6 below", -1, x.turned(-1));
        x.kinds(8);
        due("P5 high kinds", 254, x.join(64, 128));
        due("P5 high and low", 255, x.join(16 + 2, 16 + 128));
        x.triangle(5, 6, 7, 0);
        due("P5 high kinds", 254 - 128, x.join(32, 64));
        x.turn(7, 4);
        due("P6 high kinds", 16 + 1, x.turned(128 + 1));
    }

    private static void fault() {
        PairTables x = line();
        due("P7 sound", -9, x.fault());
        x.triangle(1, 1, 1, 0);
        // 1;1 is empty now, so (1;1);1 is empty, and so is 1;(1;1); (1;1);2 is empty, 1;(1;2) has 1
        due("P7 first fault", 64 + 8 + 2, x.fault());
        x.kinds(4);
        x.triangle(1, 1, 1, 0);
        x.triangle(2, 2, 2, 0);
        x.triangle(3, 3, 3, 0);
        due("P7 sound", -9, x.fault());
        x.triangle(1, 2, 3, 0);
        // 1;1 is {0, 2, 3}, with 2: {0, 1, 2, 3}; 1;2 is {1, 2}, 1 with it: {0, 1, 2, 3}
        // and 2;2 {0, 1, 3}: (1;2);2 is all, 1;(2;2) is all; likewise the others
        due("P7 by three kinds", -9, x.fault());
        x.triangle(1, 1, 2, 0);
        // 1;1 is {0, 3}, with 2: {2, 3, ..}; 1;2 is {2}, 1 with it is {2}
        due("P7 first fault", 64 + 8 + 2, x.fault());
    }

    private static void fuse() {
        PairTables x = new PairTables();
        x.kinds(6);
        x.turn(1, 2);
        x.turn(3, 4);
        due("P8 SAME", -1, x.fuse(0, 1));
        due("P8 one and the same", -1, x.fuse(2, 2));
        due("P8 beyond", -1, x.fuse(1, 6));
        due("P8 each other's", -2, x.fuse(2, 1));
        due("P8 just one its own", -2, x.fuse(5, 1));
        due("P8 just one its own", -2, x.fuse(4, 5));
        // only the one of 1 and 4 has (1, 1, 1); 3, 3, 3 and the mixed ones go
        for (int a = 1; a < 6; a++) {
            for (int b = 1; b < 6; b++) {
                for (int c = 1; c < 6; c++) {
                    x.triangle(a, b, c, 0);
                }
            }
        }
        x.triangle(1, 1, 5, 1);
        x.tell(0, 1, 2);
        readOf(x, 0, "b");
        due("P8 nothing changed", 2, x.value(0, 0, 0, 0));
        due("P8 crossed", 4, x.fuse(4, 1));
        due("P8 kinds", 4, x.count(0));
        due("P8 turns become one", 4, x.turned(2));
        due("P8 the last one its own", 8, x.turned(8));
        due("P8 by one of those", 8, x.join(2, 2));
        due("P8 SAME", 1, x.join(2, 4) & 1);
        due("P8 no others", 10 + 6, x.count(1));
        due("P8 told", 15, x.narrow(-1, 0, 1));
        due("P8 terms", 0, x.value(0, 0, 0, 0));
        x.kinds(3);
        due("P8 both their own", 2, x.fuse(2, 1));
        due("P8 one left", -1, x.fuse(1, 2));
    }

    private static void shelf() {
        PairTables x = line();
        due("P10 nothing there", -2, x.shelf(0));
        due("P10 nothing there", -2, x.shelf(1));
        due("P10 no such", -1, x.shelf(2));
        due("P10 no such", -1, x.shelf(-1));
        due("P9 keep", 3, x.keep());
        due("P9 count", 3, x.count(3));
        x.triangle(1, 1, 1, 0);
        x.tell(0, 1, 2);
        readOf(x, 0, "b");
        due("P10 too many", -3, x.shelf(1));
        due("P10 nothing changed", 2, x.value(0, 0, 0, 0));
        due("P10 back", 3, x.shelf(0));
        due("P10 its triangles", 2, x.join(2, 2));
        due("P10 its turns", 4, x.turned(2));
        due("P10 told", 7, x.narrow(-1, 0, 1));
        due("P10 terms", 0, x.value(0, 0, 0, 0));
        x.kinds(2);
        x.triangle(1, 1, 1, 0);
        due("P10 made of two", 6, x.shelf(1));
        // kind p + 2 s; (1, 0) is 1, (0, 1) is 2, (0, 2) is 4, (1, 1) is 3
        due("P10 turns by both", 1 << 5, x.turned(1 << 3));
        due("P10 by both", 1 << 3, x.join(1 << 1, 1 << 2));
        due("P10 by both", 1 << 2, x.join(1 << 3, 1 << 3));
        due("P10 by both", 1, x.join(1 << 1, 1 << 1));
        due("P10 the shelf stays", 3, x.count(3));
        due("P10 sound", -9, x.fault());
        x.kinds(2);
        x.keep();
        x.kinds(4);
        due("P10 just eight", 8, x.shelf(1));
        due("P10 just eight", -3, x.shelf(1));
        due("P10 the highest kind by both", 1 << 7, x.join(1 << 3, 1 << 4));
        x = line();
        x.keep();
        x.kinds(1);
        due("P10 of one kind", 3, x.shelf(1));
        due("P10 of one kind", 13, x.count(1));
    }

    private static void points() {
        PairTables x = line();
        x.tell(0, 1, 2);
        due("P11 none", -1, x.points(0));
        due("P11 too many", -1, x.points(9));
        due("P11 nothing changed", 2, x.narrow(-1, 0, 1));
        due("P11 as many", 3, x.points(3));
        due("P11 told", 7, x.narrow(-1, 0, 1));
        due("P11 one", 3, x.points(1));
        due("P11 no second", -1, x.tell(0, 1, 1));
        due("P11 itself", 1, x.narrow(2, 0, 0));
        due("P11 eight", 1, x.points(8));
        due("P11 the last", 7, x.tell(7, 6, 2));
    }

    private static void tell() {
        PairTables x = line();
        due("P12 what was", 7, x.tell(2, 0, 2));
        due("P12 turned", 4, x.narrow(-1, 0, 2));
        due("P12 what was", 2, x.tell(2, 0, 3));
        due("P12 what was, turned", 5, x.tell(0, 2, 0));
        due("P12 to none", 0, x.tell(0, 2, 7));
        due("P12 one and the same", -1, x.tell(1, 1, 1));
        due("P12 no point", -1, x.tell(0, 3, 1));
        due("P12 no point", -1, x.tell(-1, 0, 1));
        due("P12 bits beyond", -1, x.tell(0, 1, 8));
        due("P12 below", -1, x.tell(0, 1, -1));
        due("P12 nothing changed", 7, x.narrow(-1, 0, 1));
    }

    private static void narrowOnceAndFull() {
        PairTables x = line();
        x.points(4);
        // 3 before 2, 2 before 1, 1 before 0: once meets (0, 2) before it knows (0, 3)
        x.tell(0, 1, 4);
        x.tell(1, 2, 4);
        x.tell(2, 3, 4);
        due("P13 told", 7, x.narrow(-1, 0, 3));
        due("P13 told adds nothing", 0, x.trace());
        due("P13 once", 4, x.narrow(0, 0, 2));
        due("P13 once adds 1", 1, x.trace());
        due("P13 the net stays", 7, x.narrow(-1, 0, 2));
        due("P13 once again", 4, x.narrow(0, 0, 3));
        due("P13 itself", 1, x.narrow(0, 3, 3));
        due("P13 it is asked each time", 3, x.trace());
        due("P13 the other way round", 2, x.narrow(1, 3, 0));
        due("P13 full: twice over", 3 + 12, x.trace());
        due("P14 is not", 0, x.isVoid(1));
        due("P14 adds nothing", 15, x.trace());
        due("P13 no such way", -1, x.narrow(3, 0, 1));
        due("P13 no such way", -1, x.narrow(-2, 0, 1));
        due("P13 no point", -1, x.narrow(0, 0, 4));
        due("P13 no point", -1, x.narrow(0, -1, 0));
        due("P14 no such way", -1, x.isVoid(3));
        due("P14 no such way", -1, x.isVoid(-2));
        due("P13 nothing added", 15, x.trace());
        // told so that the order hurts: (0, 1) by (0, 3), (3, 1) needs what comes later
        x.points(4);
        x.tell(0, 2, 2);
        x.tell(2, 3, 2);
        x.tell(3, 1, 2);
        due("P13 once is too early", 7, x.narrow(-1, 0, 1));
        due("P13 full", 2, x.narrow(1, 0, 1));
    }

    private static void narrowTrying() {
        // kinds 1 and 2, no triangle of one kind alone; with six points it can't be, FULL does not see it
        PairTables x = new PairTables();
        x.kinds(3);
        x.triangle(1, 1, 1, 0);
        x.triangle(2, 2, 2, 0);
        x.points(6);
        for (int i = 0; i < 6; i++) {
            for (int j = i + 1; j < 6; j++) {
                x.tell(i, j, 6);
            }
        }
        due("P14 full leaves it", 0, x.isVoid(1));
        due("P15 no filling", 0, x.fillings(1));
        x.points(5);
        for (int i = 0; i < 5; i++) {
            for (int j = i + 1; j < 5; j++) {
                x.tell(i, j, 6);
            }
        }
        due("P15 five points: rings", 12, x.fillings(0));
        x.tell(0, 1, 2);
        x.tell(0, 2, 2);
        x.tell(0, 3, 6);
        due("P13 full", 6, x.narrow(1, 0, 3));
        due("P13 full sees one", 4, x.narrow(1, 1, 2));
        long before = x.trace();
        // with 1 for (0, 3) all of 1, 2, 3 would be joined by 2
        due("P13 trying sees more", 4, x.narrow(2, 0, 3));
        due("P13 its trace: two rounds, full with two and with one", 100 + 12 + 11, x.trace() - before);
        due("P14 trying", 0, x.isVoid(2));
        x.tell(1, 2, 2);
        before = x.trace();
        x.narrow(2, 0, 1);
        due("P13 void in the first round", 100 + 10 + 1, x.trace() - before);
        due("P14 void", 1, x.isVoid(2));
        due("P14 void", 1, x.isVoid(0));
        due("P14 not as it is told", 0, x.isVoid(-1));
    }

    private static void narrowVoid() {
        PairTables x = line();
        x.tell(0, 1, 2);
        x.tell(1, 2, 2);
        x.tell(2, 0, 2);
        due("P14 not as it is told", 0, x.isVoid(-1));
        due("P14 once", 1, x.isVoid(0));
        due("P13 empty", 0, x.narrow(0, 0, 2));
        due("P13 nothing more is done", 2, x.narrow(0, 1, 2));
        due("P13 traced", 2, x.trace());
        due("P13 nothing more is done", 2, x.narrow(1, 0, 1));
        due("P13 full stops", 2 + 11, x.trace());
        // empty as it is told: each body is asked, and nothing is done
        x.points(3);
        x.tell(0, 1, 2);
        x.tell(1, 2, 0);
        due("P14 as it is told", 1, x.isVoid(-1));
        due("P14 by trying", 1, x.isVoid(2));
        due("P13 all stays", 7, x.narrow(0, 0, 2));
        due("P13 all stays", 7, x.narrow(1, 0, 2));
        due("P13 all stays", 7, x.narrow(2, 2, 0));
        due("P13 the asked bodies", 13 + 111, x.trace());
    }

    private static void fillings() {
        PairTables x = line();
        due("P15 no such", -1, x.fillings(2));
        due("P15 no such", -1, x.fillings(-1));
        due("P15 three points in orders, some together", 13, x.fillings(0));
        x.tell(0, 1, 6);
        due("P15 two apart", 10, x.fillings(0));
        due("P15 there is", 1, x.fillings(1));
        x.tell(0, 1, 0);
        due("P15 none", 0, x.fillings(0));
        due("P15 none", 0, x.fillings(1));
        x.points(1);
        due("P15 one point", 1, x.fillings(0));
        x.points(2);
        due("P15 a pair", 3, x.fillings(0));
        x.tell(0, 1, 5);
        due("P15 a pair", 2, x.fillings(0));
        x.tell(0, 1, 0);
        due("P15 a pair that can't be", 0, x.fillings(0));
        x.points(6);
        due("P15 orders of six", 4683, x.fillings(0));
        x.points(7);
        due("P15 orders of seven", -5, x.fillings(0));
        due("P15 whether is not spent", 1, x.fillings(1));
        x.kinds(8);
        x.points(2);
        due("P15 eight", 8, x.fillings(0));
        // without SAME all triangles may be, so that the numbers of kinds are multiplied: 2^5 5^4
        x.points(8);
        for (int i = 0; i < 8; i++) {
            for (int j = i + 1; j < 8; j++) {
                x.tell(i, j, i == 0 && j < 6 ? 6 : i == 1 && j < 6 ? 124 : 128);
            }
        }
        due("P15 just not too many", 20000, x.fillings(0));
        due("P17 just not too many", 124, x.sure(1, 5));
        x.tell(6, 7, 6);
        due("P15 twice as many", -5, x.fillings(0));
    }

    private static void first() {
        PairTables x = line();
        due("P16 all together", 0, x.first(0, 2));
        x.tell(0, 2, 6);
        due("P16 the first pair rises last", 0, x.first(0, 1));
        due("P16 then the second", 1, x.first(0, 2));
        due("P16 the third by these", 1, x.first(1, 2));
        due("P16 turned", 2, x.first(2, 1));
        due("P16 itself", 0, x.first(1, 1));
        due("P16 no point", -1, x.first(0, 3));
        due("P16 no point", -1, x.first(-1, 0));
        x.tell(0, 2, 0);
        due("P16 none", -9, x.first(0, 1));
        due("P16 none", -9, x.first(1, 1));
        // the least kind of (0, 1) may stand only with a high one of (1, 2)
        x.points(3);
        x.tell(0, 1, 6);
        x.tell(0, 2, 4);
        due("P16 low first", 1, x.first(0, 1));
        due("P16 high then", 2, x.first(1, 2));
    }

    private static void sure() {
        PairTables x = line();
        x.tell(0, 1, 2);
        x.tell(1, 2, 6);
        x.tell(0, 2, 6);
        due("P17 two ways", 6, x.sure(0, 2));
        x.tell(2, 0, 2);
        due("P17 just one", 4, x.sure(1, 2));
        due("P17 turned", 2, x.sure(2, 1));
        due("P17 itself", 1, x.sure(1, 1));
        due("P17 no point", -1, x.sure(3, 0));
        due("P17 no point", -1, x.sure(0, -1));
        x.tell(1, 2, 2);
        due("P17 none", 0, x.sure(0, 1));
        due("P17 none", 0, x.sure(1, 1));
        x.points(7);
        due("P17 too many", -5, x.sure(0, 1));
        due("P17 too many for itself", -5, x.sure(1, 1));
        due("P17 a wrong one first", -1, x.sure(0, 7));
    }

    private static void reason() {
        PairTables x = line();
        due("P18 nothing told", -9, x.reason(0));
        due("P18 no such", -1, x.reason(2));
        x.points(5);
        x.tell(0, 1, 6);
        x.tell(0, 2, 2);
        x.tell(2, 4, 2);
        due("P18 it can be", -9, x.reason(1));
        x.tell(0, 4, 4);
        // such pairs: (0, 1) bit 0, (0, 2) bit 1, (0, 4) bit 2, (2, 4) bit 3
        due("P18 three", 3, x.reason(0));
        due("P18 which", 2 + 4 + 8, x.reason(1));
        x.tell(1, 3, 0);
        due("P18 one alone", 1, x.reason(0));
        due("P18 which", 8, x.reason(1));
        x.tell(0, 1, 0);
        due("P18 the first of two", 1, x.reason(1));
        x.points(5);
        for (int pair = 0; pair < 10; pair++) {
            x.tell(pair < 4 ? 0 : pair < 7 ? 1 : pair < 9 ? 2 : 3, pair < 4 ? pair + 1 : pair < 7 ? pair - 2 : pair < 9 ? pair - 4 : 4, 3);
        }
        due("P18 ten", -9, x.reason(0));
        x.points(6);
        for (int j = 1; j < 6; j++) {
            x.tell(0, j, 6);
            x.tell(j, j % 5 + 1, 6);
        }
        due("P18 ten", -9, x.reason(0));
        x.tell(1, 3, 6);
        due("P18 eleven", -2, x.reason(0));
        due("P18 a wrong one first", -1, x.reason(-1));
        x.tell(1, 3, 0);
        due("P18 eleven", -2, x.reason(1));
        x.points(4);
        // two unlike reasons of three: 0 1 2 (bits 0, 1, 3) and 0 2 3 (bits 1, 2, 4) of five such pairs
        x.tell(0, 1, 2);
        x.tell(0, 2, 4);
        x.tell(0, 3, 2);
        x.tell(1, 2, 2);
        x.tell(2, 3, 4);
        due("P18 the first set", 1 + 2 + 8, x.reason(1));
    }

    private static void type() {
        PairTables x = new PairTables();
        due("P19 none", -1, x.type(0, 0));
        due("P19 nine", -1, x.type(0, 9));
        due("P19 two", 2, x.type(0x7829, 2));
        due("P19 only the lowest", 3, x.type(0x7878302BL, 1));
        due("P20 clear", 3, x.clear());
        due("P20 clear", 0, x.clear());
        x.type(0x302B31, 3);
        due("P19 the highest first", 1, x.read(0));
        due("P19 the highest first", 1, x.value(0, 0, 0, 0));
        for (int i = 1; i <= 7; i++) {
            due("P19 eight more", 8 * i, x.type(-1L, 8));
        }
        due("P19 too many", -3, x.type(0, 5));
        due("P19 wrong before full", -1, x.type(0, 9));
        due("P19 nothing changed", 60, x.type(0, 4));
        due("P19 full", -3, x.type(0, 1));
        due("P25 draft", 60, x.count(4));
        due("P21 a byte of 255", -10, x.read(0));
        due("P20 clear", 60, x.clear());
    }

    private static void read() {
        PairTables x = new PairTables();
        x.kinds(3);
        due("P21 no such", -1, x.read(4));
        due("P21 no such", -1, x.read(-1));
        due("P21 empty", -10, x.read(0));
        due("P21 a letter too high", -10, readOf(x, 0, "d"));
        due("P21 the highest kind", 1, readOf(x, 0, "c"));
        due("P21 it is empty then", 0, x.count(4));
        due("P21 big letters", -10, readOf(x, 0, "A"));
        due("P21 a blank", -11, readOf(x, 0, "a +b"));
        due("P21 two factors", -11, readOf(x, 0, "ab"));
        due("P21 a sign after", -11, readOf(x, 0, "a-b"));
        due("P21 a sign after", -11, readOf(x, 0, "a~"));
        due("P21 two signs", -12, readOf(x, 0, "a+&b"));
        due("P21 ends too early", -12, readOf(x, 0, "a;"));
        due("P21 ends too early", -11, readOf(x, 0, "-"));
        due("P21 ends too early", -12, readOf(x, 0, "(a"));
        due("P21 no bracket is open", -11, readOf(x, 0, "a)"));
        due("P21 an empty bracket", -11, readOf(x, 0, "()"));
        due("P21 an open bracket after", -11, readOf(x, 0, "a(b)"));
        due("P21 begins with a sign", -10, readOf(x, 0, "+a"));
        due("P21 other bytes", -10, readOf(x, 0, "w"));
        due("P21 other bytes", -10, readOf(x, 0, "{"));
        due("P21 other bytes", -10, readOf(x, 0, "2"));
        due("P21 other bytes", -11, readOf(x, 0, "a*b"));
        due("P21 it stays", 3, x.count(4));
        due("P21 nothing changed", 4, x.value(0, 0, 0, 0));
        due("P21 nothing changed", 0, x.value(1, 7, 7, 7));
        due("P21 signs", 1, readOf(x, 3, "-~-(x)"));
        due("P21 a bracket closes", 1, readOf(x, 3, "((x);y)&(z)"));
    }

    private static void readLimits() {
        PairTables x = new PairTables();
        String forty = "-".repeat(40);
        due("P21 forty", 1, readOf(x, 0, forty.substring(1) + "x"));
        due("P21 a 41st", -50, readOf(x, 0, forty + "x"));
        due("P21 a 41st", -50, readOf(x, 0, forty + "-"));
        due("P21 a 41st", -50, readOf(x, 0, forty + "("));
        due("P21 a 41st that isn't there", -50, readOf(x, 0, forty));
        String tens = "-".repeat(29) + "x" + "+x".repeat(10);
        due("P21 signs and factors", 1, readOf(x, 0, tens));
        due("P21 signs and factors", -10 - 51, readOf(x, 0, tens + "+x"));
        due("P21 a bracket is a factor", 1, readOf(x, 0, "-".repeat(38) + "(x)"));
        due("P21 a bracket is a factor", -10 - 40, readOf(x, 0, "-".repeat(39) + "(x)"));
        due("P21 ten open", 1, readOf(x, 0, "(".repeat(10) + "x" + ")".repeat(10)));
        due("P21 an 11th", -20, readOf(x, 0, "(".repeat(11) + "x" + ")".repeat(11)));
        due("P21 ten at a time", 1, readOf(x, 0, "(x)+".repeat(12) + "(x)"));
        due("P21 sixty bytes", 1, readOf(x, 0, "x" + "+x".repeat(29) + ""));
        due("P21 sixty bytes", 1, readOf(x, 0, "-x" + "+x".repeat(29)));
    }

    private static void value() {
        PairTables x = line();
        due("P22 no such", -1, x.value(4, 0, 0, 0));
        due("P22 bits beyond", -1, x.value(0, 8, 0, 0));
        due("P22 bits beyond", -1, x.value(0, 0, -1, 0));
        due("P22 bits beyond", -1, x.value(0, 0, 0, 8));
        readOf(x, 0, "x+y&z");
        due("P22 & before +", 1 + 2, x.value(0, 1, 6, 2));
        readOf(x, 0, "x&y;z");
        due("P22 ; before &", 2, x.value(0, 2, 2, 2));
        due("P22 ; before &", 4, x.value(0, 4, 2, 4));
        readOf(x, 0, "-x;y");
        due("P22 - before ;", 2, x.value(0, 5, 2, 0));
        readOf(x, 0, "~x;y");
        due("P22 ~ before ;", 4, x.value(0, 2, 4, 0));
        readOf(x, 0, "-~x");
        due("P22 signs from within", 3, x.value(0, 2, 0, 0));
        readOf(x, 0, "-(x+b)");
        due("P22 a bracket", 4, x.value(0, 1, 0, 0));
        readOf(x, 0, "(x+y);z");
        due("P22 a bracket", 6, x.value(0, 1, 4, 2) & 6);
        readOf(x, 0, "1");
        due("P22 all", 7, x.value(0, 0, 0, 0));
        readOf(x, 0, "0");
        due("P22 none", 0, x.value(0, 7, 7, 7));
        readOf(x, 0, "a+c");
        due("P22 kinds", 5, x.value(0, 0, 0, 0));
        // from the left: with a table that is not sound both ways differ
        x.triangle(1, 1, 1, 0);
        readOf(x, 0, "b;b;c");
        readOf(x, 1, "b;(b;c)");
        due("P22 from the left", 0, x.value(0, 0, 0, 0));
        due("P22 the other way", 2, x.value(1, 0, 0, 0) & 2);
    }

    private static void against() {
        PairTables x = line();
        due("P23 no such", -1, x.against(0, 4));
        due("P23 no such", -1, x.against(-1, 0));
        due("P23 both 0", -9, x.against(0, 1));
        readOf(x, 0, "x;y");
        readOf(x, 1, "y;x");
        due("P23 a law of the line", -9, x.against(0, 1));
        readOf(x, 2, "~(~y;~x)");
        due("P23 a law of all", -9, x.against(0, 2));
        readOf(x, 2, "x&y");
        // {0} and {0} agree; x = {1}, y = {0}: 1 against none
        due("P23 the least: x 2, y 1", 2 + 8, x.against(0, 2));
        readOf(x, 3, "z");
        due("P23 x 1, y 1, z 0", 1 + 8, x.against(3, 1));
        readOf(x, 1, "1");
        readOf(x, 2, "0");
        due("P23 no letters", 0, x.against(1, 2));
        readOf(x, 1, "y");
        due("P23 y alone", 8, x.against(1, 2));
        due("P23 z alone", 64, x.against(3, 2));
        due("P23 y before z", 8, x.against(1, 3));
        x.kinds(5);
        readOf(x, 0, "x+y");
        readOf(x, 1, "z");
        due("P23 fifteen", -2, x.against(0, 1));
        due("P23 fifteen by one and the same", -9, x.against(0, 0));
        x.kinds(7);
        readOf(x, 0, "x&y");
        due("P23 fourteen", -2, x.against(0, 0));
        x.kinds(6);
        readOf(x, 0, "x;y");
        readOf(x, 1, "y;x");
        due("P23 twelve", -9, x.against(0, 1));
        x.kinds(8);
        readOf(x, 0, "z;h");
        due("P23 eight", 1L << 16, x.against(0, 1));
    }

    private static void carried() {
        PairTables x = line();
        due("P24 no points", -1, x.carried(0, 0));
        due("P24 six points", -1, x.carried(6, 0));
        due("P24 no such", -1, x.carried(1, 2));
        due("P24 no such", -1, x.carried(1, -1));
        due("P24 one point", 1, x.carried(1, 0));
        due("P24 not each kind comes", 0, x.carried(1, 1));
        due("P24 two", 2, x.carried(2, 0));
        due("P24 orders", 120, x.carried(5, 0));
        due("P24 none is whole", 0, x.carried(5, 1));
        x.triangle(1, 1, 1, 0);
        due("P24 no way between: two", 2, x.carried(2, 1));
        due("P24 three can't be", 0, x.carried(3, 0));
        x.kinds(1);
        due("P24 SAME alone, one point", 1, x.carried(1, 1));
        due("P24 SAME alone, two", 0, x.carried(2, 0));
        x.kinds(3);
        x.triangle(1, 1, 1, 0);
        x.triangle(2, 2, 2, 0);
        due("P24 five: rings", 12, x.carried(5, 0));
        due("P24 five: whole", 12, x.carried(5, 1));
        due("P24 four", 18, x.carried(4, 0));
        due("P24 four: not whole", 0, x.carried(4, 1));
        x.triangle(1, 2, 1, 0);
        x.triangle(2, 1, 2, 0);
        x.triangle(1, 1, 1, 1);
        x.triangle(1, 1, 2, 0);
        due("P24 whole, but one kind never comes", 0, x.carried(3, 1));
        x.kinds(4);
        due("P24 four points", 729, x.carried(4, 0));
        due("P24 five are too many", -5, x.carried(5, 0));
        due("P24 five are too many", -5, x.carried(5, 1));
        x.kinds(4);
        x.triangle(1, 1, 1, 0);
        x.triangle(2, 2, 2, 0);
        x.triangle(3, 3, 3, 0);
        x.triangle(1, 1, 2, 0);
        x.triangle(1, 1, 3, 0);
        x.triangle(2, 2, 1, 0);
        x.triangle(2, 2, 3, 0);
        x.triangle(3, 3, 1, 0);
        x.triangle(3, 3, 2, 0);
        due("P24 four by three", 6, x.carried(4, 0));
        due("P24 four by three, whole", 6, x.carried(4, 1));
    }

    private static void count() {
        PairTables x = new PairTables();
        due("P25 no such", -1, x.count(5));
        due("P25 no such", -1, x.count(-1));
        x.kinds(4);
        due("P25 kinds", 4, x.count(0));
        due("P25 triangles", 37, x.count(1));
        x.points(5);
        due("P25 points", 5, x.count(2));
        due("P25 an empty shelf", 0, x.count(3));
        x.keep();
        due("P25 the shelf", 4, x.count(3));
        x.type(0, 7);
        due("P25 the draft", 7, x.count(4));
    }

    private static void trace() {
        PairTables x = line();
        x.narrow(0, 0, 1);
        due("P26 once", 1, x.trace());
        x.narrow(1, 0, 1);
        due("P26 full", 1 + 11, x.trace());
        x.narrow(2, 0, 1);
        due("P26 trying", 12 + 111, x.trace());
        x.kinds(2);
        x.points(2);
        x.isVoid(2);
        x.narrow(-1, 0, 1);
        x.narrow(2, 0, 2);
        due("P26 stays", 123, x.trace());
    }

    private static void whatTheNetAndTermsOutlive() {
        PairTables x = line();
        x.tell(0, 1, 2);
        x.tell(1, 2, 2);
        due("a triangle leaves what is told", 2, x.narrow(1, 0, 2));
        x.triangle(1, 1, 2, 1);
        due("it is narrowed by the new table", 6, x.narrow(1, 0, 2));
        due("it is filled by the new table", 2, x.fillings(0));
        due("carried by the new table", 8, x.carried(3, 0));
        x.triangle(1, 1, 2, 0);
        due("and back", 1, x.fillings(0));
        due("and back", 6, x.carried(3, 0));
        due("first after a change", 1, x.first(0, 2));
        x.tell(0, 2, 5);
        due("first after a change", -9, x.first(0, 2));
        due("reason after a change", 3, x.reason(0));
        x.tell(0, 2, 7);
        due("reason after a change", -9, x.reason(0));
    }
}
