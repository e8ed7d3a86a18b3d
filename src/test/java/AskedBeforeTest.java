/** Questions change nothing: whoever was asked before answers as one that was not. */
public final class AskedBeforeTest extends Hand {
    public static void main(String[] args) {
        for (int way = 0; way < 4; way++) {
            tableChanges(way);
            netChanges(way);
            shelfChanges(way);
        }
        end("AskedBeforeTest");
    }

    /** Some calls that change the object; what they answer is looked at elsewhere. */
    private interface Change {
        void of(PairTables x);
    }

    private static void tableChanges(int way) {
        alike("the table", way, x -> x.kinds(4), x -> x.turn(1, 2), x -> x.triangle(1, 1, 2, 0), x -> x.turn(1, 2),
            x -> x.triangle(3, 3, 3, 0), x -> x.tell(0, 1, 2), x -> x.triangle(1, 3, 1, 0), x -> x.turn(1, 1),
            x -> x.triangle(1, 1, 1, 0), x -> x.fuse(1, 3));
        alike("the table", way, x -> x.kinds(3), x -> x.triangle(1, 1, 1, 0), x -> x.turn(2, 2), x -> x.kinds(3),
            x -> x.triangle(2, 1, 2, 0), x -> x.triangle(2, 1, 2, 1), x -> x.turn(2, 1), x -> x.kinds(2));
    }

    private static void netChanges(int way) {
        alike("the net", way, x -> x.kinds(3), x -> x.turn(1, 2), x -> x.triangle(1, 1, 2, 0), x -> x.tell(0, 1, 2),
            x -> x.tell(1, 2, 2), x -> x.tell(2, 0, 6), x -> x.tell(2, 0, 2), x -> x.tell(0, 1, 6),
            x -> x.points(3), x -> x.tell(1, 2, 0));
        alike("the net", way, x -> x.kinds(3), x -> x.points(4), x -> x.tell(0, 1, 2), x -> x.tell(1, 2, 2),
            x -> x.tell(0, 2, 4), x -> x.tell(2, 3, 2), x -> x.triangle(1, 1, 2, 0), x -> x.tell(0, 1, 0),
            x -> x.tell(0, 1, 7), x -> x.tell(2, 3, 0));
        alike("the net", way, x -> x.kinds(3), x -> x.triangle(1, 1, 1, 0), x -> x.points(4), x -> tellAll(x, 6),
            x -> x.tell(1, 3, 5), x -> x.tell(0, 2, 2), x -> x.points(2), x -> x.points(4));
    }

    private static void shelfChanges(int way) {
        alike("the shelf", way, x -> x.kinds(2), x -> x.triangle(1, 1, 1, 0), PairTables::keep, x -> x.kinds(2),
            x -> x.shelf(1), x -> x.tell(0, 1, 6), x -> x.shelf(0), x -> x.tell(0, 1, 2), x -> x.shelf(0));
    }

    /** After each change one is asked all things, in the order that the way tells; the other is new, and not asked. */
    private static void alike(String what, int way, Change... changes) {
        PairTables asked = new PairTables();
        readOf(asked, 0, "x;-y");
        readOf(asked, 1, "x");
        for (int many = 0; many < changes.length; many++) {
            changes[many].of(asked);
            PairTables fresh = new PairTables();
            readOf(fresh, 0, "x;-y");
            readOf(fresh, 1, "x");
            for (int at = 0; at <= many; at++) {
                changes[at].of(fresh);
            }
            String got = answers(asked, way);
            String want = answers(fresh, way);
            due(what + " after change " + many + ":" + got + " as due" + want, 1, got.equals(want) ? 1 : 0);
        }
    }

    private static String answers(PairTables x, int way) {
        StringBuilder text = new StringBuilder();
        for (int sort = 0; sort < 4; sort++) {
            append(text, x, (sort + way) % 4);
        }
        return text.toString();
    }

    private static void append(StringBuilder text, PairTables x, int sort) {
        int last = x.count(2) - 1;
        if (sort == 0) {
            long before = x.trace();
            text.append(" narrowed");
            for (int one = 2; one >= 0; one--) {
                text.append(' ').append(x.narrow(one, 0, last)).append(' ').append(x.narrow(one, last, 1));
                text.append(' ').append(x.isVoid(one));
            }
            text.append(" traced ").append(x.trace() - before);
        } else if (sort == 1) {
            text.append(" filled ").append(x.sure(last, 0)).append(' ').append(x.first(0, 1)).append(' ').append(x.first(last, 1));
            text.append(' ').append(x.fillings(0)).append(' ').append(x.fillings(1));
        } else if (sort == 2) {
            text.append(" reason ").append(x.reason(1)).append(' ').append(x.reason(0));
            text.append(" fault ").append(x.fault()).append(" join ").append(x.join(3, 2)).append(" turned ").append(x.turned(2));
        } else {
            text.append(" carried ").append(x.carried(3, 1)).append(' ').append(x.carried(3, 0)).append(' ').append(x.carried(2, 1));
            text.append(" value ").append(x.value(0, 1, 1, 0)).append(" against ").append(x.against(0, 1));
        }
    }
}
