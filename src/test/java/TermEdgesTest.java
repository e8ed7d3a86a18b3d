/** The boundary cases of terms, sentence by sentence: part 3 of 'Terms', promises 19 to 23. */
public final class TermEdgesTest extends Hand {
    private static final int[] OFF = {Integer.MIN_VALUE, -2, -1, 4, 5, 64, Integer.MAX_VALUE};

    public static void main(String[] args) {
        termsAreFour();
        eachIsZeroAtFirst();
        typeTakesTheLowest();
        typeTakesOneToEight();
        typeFillsSixty();
        typeRefused();
        clearEmpties();
        readEmpties();
        readOfNothing();
        readRefused();
        faultLeavesAll();
        bytesThatStandNowhere();
        kindsThatAreThere();
        factorsThatCantStand();
        endsTooEarly();
        bracketsThatCantStand();
        fortyFactors();
        fortyWithBrackets();
        tenOpen();
        sixtyBytes();
        faultComesFirst();
        meetsAndJoins();
        joinsFromTheLeft();
        signsBindMost();
        leaves();
        valueByTheTableAsItIs();
        valueRefused();
        lawsWithoutLetters();
        twelveIsNotTooMany();
        thirteenIsTooMany();
        lettersOfBoth();
        againstTheLeast();
        againstPlaces();
        againstRefused();
        end("TermEdgesTest");
    }

    private static void termsAreFour() {
        PairTables x = ofKinds(3);
        String[] texts = {"a", "b", "c", "1"};
        for (int i = 0; i < 4; i++) {
            due("TERM " + i, 1, readOf(x, i, texts[i]));
        }
        int[] values = {1, 2, 4, 7};
        for (int i = 0; i < 4; i++) {
            due("TERM " + i, values[i], x.value(i, 0, 0, 0));
        }
        put(x, "0");
        due("no such TERM", -1, x.read(4));
        due("no such TERM", -1, x.value(4, 0, 0, 0));
        due("no such TERM", -1, x.against(4, 0));
        due("no such TERM", -1, x.against(0, 4));
    }

    private static void eachIsZeroAtFirst() {
        PairTables x = new PairTables();
        for (int i = 0; i < 4; i++) {
            due("0 at first", 0, x.value(i, 1, 1, 1));
            for (int j = 0; j < 4; j++) {
                due("0 and 0", -9, x.against(i, j));
            }
        }
        x.kinds(8);
        due("0, no letters: asked of eight, too", -9, x.against(0, 3));
    }

    private static void typeTakesTheLowest() {
        PairTables x = ofKinds(3);
        due("the lowest one", 1, x.type(0x2B2B2B2B2B2B2B62L, 1));
        due("b", 1, x.read(0));
        due("b", 2, x.value(0, 0, 0, 0));
        due("the lowest three", 3, x.type(0x2929292929612B63L, 3));
        due("a+c, the highest first", 1, x.read(0));
        due("a+c", 5, x.value(0, 0, 0, 0));
        due("the highest of them first", 3, x.type(0x782962L, 3));
        due("x)b", -11, x.read(0));
        x.clear();
        due("all eight", 8, x.type(0x2D2D2D2D2D2D2D62L, 8));
        due("-------b", 1, x.read(0));
        due("-------b", 5, x.value(0, 0, 0, 0));
        due("the highest byte of a number below 0", 8, x.type(0xE12D2D2D2D2D2D62L, 8));
        due("byte 225 stands nowhere", -10, x.read(0));
        x.clear();
        due("0 bytes are bytes", 8, x.type(0L, 8));
        due("byte 0 stands nowhere", -10, x.read(0));
        x.clear();
        due("-1", 1, x.type(-1L, 1));
        due("byte 255 stands nowhere", -10, x.read(0));
    }

    private static void typeTakesOneToEight() {
        PairTables x = new PairTables();
        int length = 0;
        for (int n = 1; n <= 8; n++) {
            length += n;
            due("how many it has", length, x.type(0x3030303030303030L, n));
            due("how many it has", length, x.count(4));
        }
        due("none", -1, x.type(0, 0));
        due("nine", -1, x.type(0, 9));
        due("below", -1, x.type(0, -1));
        due("far off", -1, x.type(0, Integer.MIN_VALUE));
        due("far off", -1, x.type(0, Integer.MAX_VALUE));
        due("nothing changes", 36, x.clear());
    }

    private static void typeFillsSixty() {
        PairTables x = new PairTables();
        for (int i = 1; i <= 7; i++) {
            x.type(0x2D2D2D2D2D2D2D2DL, 8);
        }
        due("61", -3, x.type(0x3030303030L, 5));
        due("64", -3, x.type(0x3030303030303030L, 8));
        due("nothing changes", 56, x.count(4));
        due("59", 59, x.type(0x303030L, 3));
        due("61", -3, x.type(0x3030L, 2));
        due("nothing changes", 59, x.count(4));
        due("just 60", 60, x.type(0x30L, 1));
        for (int n = 1; n <= 8; n++) {
            due("more than 60", -3, x.type(0, n));
        }
        due("60", 60, x.count(4));
        due("60", 60, x.clear());
        due("empty again", 8, x.type(0, 8));
    }

    private static void typeRefused() {
        PairTables x = new PairTables();
        put(x, "x".repeat(60));
        due("BAD before FULL", -1, x.type(0, 0));
        due("BAD before FULL", -1, x.type(0, 9));
        due("BAD before FULL", -1, x.type(0, -8));
        due("BAD before FULL", -1, x.type(0, Integer.MAX_VALUE));
        due("FULL", -3, x.type(0, 1));
        due("nothing changes", 60, x.count(4));
        due("nothing changes", -11, x.read(0));
    }

    private static void clearEmpties() {
        PairTables x = new PairTables();
        due("empty", 0, x.clear());
        put(x, "x+");
        due("two", 2, x.clear());
        due("it is empty", 0, x.count(4));
        due("it is empty", 0, x.clear());
        due("nothing is left", 1, put(x, "1"));
        due("nothing is left", 1, x.read(0));
        put(x, "0");
        x.clear();
        due("TERMS stay", 1, x.value(0, 0, 0, 0));
    }

    private static void readEmpties() {
        PairTables x = new PairTables();
        put(x, "-0");
        due("1", 1, x.read(2));
        due("it is empty then", 0, x.count(4));
        due("it is empty then", -10, x.read(2));
        due("the TERM stays", 1, x.value(2, 0, 0, 0));
        due("others are as they were", 0, x.value(1, 0, 0, 0));
        due("a shorter one", 1, readOf(x, 2, "0"));
        due("a shorter one", 0, x.value(2, 1, 1, 1));
    }

    private static void readOfNothing() {
        PairTables x = new PairTables();
        for (int i = 0; i < 4; i++) {
            due("it ends too early: its length is 0", -10, x.read(i));
            due("nothing changes", 0, x.value(i, 1, 1, 1));
        }
    }

    private static void readRefused() {
        PairTables x = ofKinds(3);
        readOf(x, 1, "x+b");
        put(x, "b+");
        String before = seen(x);
        for (int off : OFF) {
            due("BAD before FAULT", -1, x.read(off));
        }
        unchanged("read", before, x);
        put(x, "c");
        for (int off : OFF) {
            due("no such TERM", -1, x.read(off));
        }
        due("THE DRAFT stays", 3, x.count(4));
        due("THE DRAFT stays", 1, x.read(3));
        due("THE DRAFT stays", 6, x.value(3, 0, 0, 0));
    }

    private static void faultLeavesAll() {
        PairTables x = ofKinds(3);
        readOf(x, 1, "x+b");
        put(x, "y;z&");
        String before = seen(x);
        due("it ends too early", -14, x.read(1));
        due("and so again", -14, x.read(1));
        unchanged("read", before, x);
        due("the letters of the TERM stay: x alone", 1, x.against(1, 0) >= 0 ? 1 : 0);
        put(x, "0");
        due("when it goes on", 1, x.read(1));
        due("when it goes on", 0, x.value(1, 7, 7, 7));
    }

    private static void bytesThatStandNowhere() {
        PairTables x = ofKinds(8);
        for (int one = 0; one < 256; one++) {
            if (one % 64 == 0) {
                x = ofKinds(8);
            }
            boolean isLeaf = one >= 'a' && one <= 'h' || one >= 'x' && one <= 'z' || one == '0' || one == '1';
            boolean opens = one == '-' || one == '~' || one == '(';
            if (!isLeaf && !opens) {
                x.type(one, 1);
                due("byte " + one + " at the beginning", -10, x.read(0));
                x.clear();
            }
            if (one != '+' && one != '&' && one != ';') {
                x.type('x' << 8 | one, 2);
                due("byte " + one + " after a FACTOR", -11, x.read(0));
                x.clear();
            }
        }
        due("a blank at the end", -11, readOf(x, 0, "x "));
        due("a blank at the beginning", -10, readOf(x, 0, " x"));
    }

    private static void kindsThatAreThere() {
        for (int k = 1; k <= 8; k++) {
            PairTables x = ofKinds(k);
            for (int a = 0; a < 8; a++) {
                String text = "" + (char) ('a' + a);
                due(text + " of " + k, a < k ? 1 : -10, readOf(x, 0, text));
                if (a < k) {
                    due(text + " of " + k, 1 << a, x.value(0, 0, 0, 0));
                }
            }
            due("i of " + k, -10, readOf(x, 0, "i"));
            due("within", k < 8 ? -13 : 1, readOf(x, 0, "x+-" + (char) ('a' + Math.min(k, 7))));
        }
        // one that is there when it is typed, but not when it is read; and the other way round
        PairTables x = ofKinds(3);
        put(x, "c");
        x.kinds(2);
        due("not any more", -10, x.read(0));
        x.kinds(3);
        due("there again", 1, x.read(0));
    }

    private static void factorsThatCantStand() {
        PairTables x = ofKinds(3);
        String[] joins = {"+", "&", ";"};
        for (String one : joins) {
            due("first", -10, readOf(x, 0, one));
            due("first", -10, readOf(x, 0, one + "x"));
            due("after ( ", -11, readOf(x, 0, "(" + one + "x)"));
            due("after -", -11, readOf(x, 0, "-" + one + "x"));
            due("after ~", -11, readOf(x, 0, "~" + one));
            for (String other : joins) {
                due("two", -12, readOf(x, 0, "x" + one + other + "x"));
            }
            due("a FACTOR", 1, readOf(x, 0, "x" + one + "y"));
            due("a sign", 1, readOf(x, 0, "x" + one + "-~y"));
            due("a (", 1, readOf(x, 0, "x" + one + "(y)"));
        }
        due("FACTOR after FACTOR", -11, readOf(x, 0, "x-y"));
        due("FACTOR after FACTOR", -11, readOf(x, 0, "a~b"));
        due("FACTOR after FACTOR", -11, readOf(x, 0, "10"));
        due("FACTOR after )", -13, readOf(x, 0, "(x)y"));
        due("( after )", -13, readOf(x, 0, "(x)(y)"));
        due("( after FACTOR", -11, readOf(x, 0, "x(y)"));
        due("- after )", -13, readOf(x, 0, "(x)-y"));
    }

    private static void endsTooEarly() {
        PairTables x = ofKinds(3);
        String[] texts = {"-", "~", "(", "-~", "x+", "x&", "x;", "(x", "(x+", "((x)", "x+(y;z", "-(", "(-x"};
        for (String text : texts) {
            due(text + ": its length", -10 - text.length(), readOf(x, 0, text));
        }
    }

    private static void bracketsThatCantStand() {
        PairTables x = ofKinds(3);
        due("none is open", -10, readOf(x, 0, ")"));
        due("none is open", -11, readOf(x, 0, "x)"));
        due("none is open any more", -13, readOf(x, 0, "(x))"));
        due("nothing within", -11, readOf(x, 0, "()"));
        due("after a sign", -12, readOf(x, 0, "(-)"));
        due("after +", -13, readOf(x, 0, "(x+)"));
        due("within each other", 1, readOf(x, 0, "((x);(y))&(-(z))"));
    }

    private static void fortyFactors() {
        PairTables x = ofKinds(3);
        due("40", 1, readOf(x, 0, "-".repeat(39) + "x"));
        due("40", 5, x.value(0, 2, 0, 0));
        due("a 41st", -50, readOf(x, 0, "~".repeat(40) + "x"));
        due("a 41st sign", -50, readOf(x, 0, "-~".repeat(20) + "-"));
        due("40 signs: it ends too early", -50, readOf(x, 0, "-~".repeat(20)));
        // 29 signs and 11 FACTORS with 10 between
        String full = "-".repeat(29) + "x" + "+y".repeat(10);
        due("40 of both", 1, readOf(x, 0, full));
        due("a 41st", -10 - full.length() - 1, readOf(x, 0, full + ";x"));
        due("a 41st, a sign", -10 - full.length() - 1, readOf(x, 0, full + "&-"));
        due("a 41st that is no FACTOR, either", -10 - full.length() - 1, readOf(x, 0, full + "&&"));
        due("30 FACTORS, 60 bytes less one", 1, readOf(x, 0, "x" + ";x".repeat(29)));
        due("20 signs, 20 FACTORS", 1, readOf(x, 0, "-x" + "&~x".repeat(19)));
    }

    private static void fortyWithBrackets() {
        PairTables x = ofKinds(3);
        due("( SUM ) is a FACTOR: 40", 1, readOf(x, 0, "-".repeat(38) + "(x)"));
        due("( SUM ) is a FACTOR: x is a 41st", -10 - 40, readOf(x, 0, "-".repeat(39) + "(x)"));
        due("( SUM ) is a FACTOR: it is a 41st", -10 - 40, readOf(x, 0, "-".repeat(40) + "(x)"));
        due("none of these is left by the last text", 1, readOf(x, 0, "-".repeat(38) + "(x)"));
    }

    private static void tenOpen() {
        PairTables x = ofKinds(3);
        due("10", 1, readOf(x, 0, "(".repeat(10) + "x" + ")".repeat(10)));
        due("10", 2, x.value(0, 2, 0, 0));
        due("an 11th", -20, readOf(x, 0, "(".repeat(11) + "x" + ")".repeat(11)));
        due("10 open: it ends too early", -20, readOf(x, 0, "(".repeat(10)));
        due("an 11th after FACTORS", -10 - 22, readOf(x, 0, "(-".repeat(10) + "x+(y)"));
        due("10 at a time", 1, readOf(x, 0, "(".repeat(10) + "x" + ")".repeat(10) + "+" + "(".repeat(10) + "y" + ")".repeat(10)));
        due("one is closed", 1, readOf(x, 0, "(".repeat(10) + "x)+(y" + ")".repeat(10)));
        due("12, one at a time", 1, readOf(x, 0, "(x)" + "&(x)".repeat(11)));
    }

    private static void sixtyBytes() {
        PairTables x = ofKinds(3);
        String sixty = "-x" + "+x".repeat(29);
        due("60", 60, sixty.length());
        due("60 bytes", 1, readOf(x, 0, sixty));
        due("60 bytes", 7, x.value(0, 2, 0, 0));
        due("the 60th can't stand", -10 - 59, readOf(x, 0, "x" + "+x".repeat(29) + ")"));
        due("60 and too early", -10 - 60, readOf(x, 0, "x+".repeat(30)));
        due("60 and too early", -10 - 60, readOf(x, 0, "((x" + "+x".repeat(28) + ")"));
    }

    private static void faultComesFirst() {
        PairTables x = ofKinds(3);
        due("the first of three", -12, readOf(x, 0, "x+)+d("));
        due("before it ends too early", -12, readOf(x, 0, "(x("));
        due("before the 41st", -11, readOf(x, 0, "-)" + "-".repeat(45)));
    }

    private static void meetsAndJoins() {
        PairTables x = line();
        readOf(x, 0, "x+y&z");
        due("& before +", 1 + 2, x.value(0, 1, 6, 2));
        readOf(x, 0, "x&y+z");
        due("& before +", 4, x.value(0, 1, 6, 4));
        readOf(x, 0, "x;y&z");
        due("; before &: before and before, meet SAME", 0, x.value(0, 2, 2, 1));
        readOf(x, 0, "z&x;y");
        due("; before &: SAME is in both ways", 1, x.value(0, 2, 4, 1));
        readOf(x, 0, "x;y+z");
        due("; before +", 3, x.value(0, 2, 2, 1));
        readOf(x, 0, "z+x;y");
        due("; before +: after is not joined to", 6, x.value(0, 2, 2, 4));
        readOf(x, 0, "(x+y)&z");
        due("a bracket first", 2, x.value(0, 1, 6, 2));
        readOf(x, 0, "x;(y&z)");
        due("a bracket first", 2, x.value(0, 2, 3, 5));
        readOf(x, 0, "x;(y+z)");
        due("a bracket first", 7, x.value(0, 2, 2, 4));
    }

    private static void joinsFromTheLeft() {
        // 1;1 is {0}, with 2: {2}; 1;2 is none, and so is 1 with it
        PairTables x = ofKinds(3);
        x.triangle(1, 1, 1, 0);
        x.triangle(1, 1, 2, 0);
        x.triangle(1, 2, 2, 0);
        readOf(x, 0, "x;y;z");
        due("from the left", 4, x.value(0, 2, 2, 4));
        readOf(x, 0, "x;(y;z)");
        due("as it is bracketed", 0, x.value(0, 2, 2, 4));
        readOf(x, 0, "z;x;y");
        due("from the left", 0, x.value(0, 2, 2, 4));
        readOf(x, 0, "x;y;z;z");
        due("four from the left: 2 and 2", 5, x.value(0, 2, 2, 4));
    }

    private static void signsBindMost() {
        PairTables x = line();
        readOf(x, 0, "-x+y");
        due("- of x alone", 7, x.value(0, 2, 2, 0));
        readOf(x, 0, "-x&y");
        due("- of x alone", 0, x.value(0, 2, 2, 0));
        readOf(x, 0, "~x;y");
        due("~ of x alone", 4, x.value(0, 2, 4, 0));
        readOf(x, 0, "x;~y");
        due("~ of y alone", 2, x.value(0, 2, 4, 0));
        readOf(x, 0, "-~x");
        due("from within", 3, x.value(0, 2, 0, 0));
        readOf(x, 0, "~-x");
        due("from within", 3, x.value(0, 2, 0, 0));
        readOf(x, 0, "-(x;y)");
        due("of a bracket", 5, x.value(0, 2, 2, 0));
        readOf(x, 0, "-x;y");
        due("- before ;", 7, x.value(0, 2, 2, 0));
        readOf(x, 0, "--x");
        due("twice", 2, x.value(0, 2, 0, 0));
        readOf(x, 0, "~~x");
        due("twice", 2, x.value(0, 2, 0, 0));
    }

    private static void leaves() {
        for (int k = 1; k <= 8; k++) {
            PairTables x = ofKinds(k);
            int all = (1 << k) - 1;
            readOf(x, 0, "1");
            due("all", all, x.value(0, 0, 0, 0));
            readOf(x, 1, "0");
            due("none", 0, x.value(1, all, all, all));
            readOf(x, 2, "-0");
            due("all but none", all, x.value(2, 0, 0, 0));
            readOf(x, 3, "-1");
            due("all but all", 0, x.value(3, all, all, all));
            readOf(x, 0, "x");
            due("x", all, x.value(0, all, 0, 0));
            readOf(x, 0, "y");
            due("y", all, x.value(0, 0, all, 0));
            readOf(x, 0, "z");
            due("z", all, x.value(0, 0, 0, all));
            readOf(x, 0, "-x");
            due("all KINDS but those", all - 1, x.value(0, 1, 0, 0));
            readOf(x, 0, "1;0");
            due("JOIN with none", 0, x.value(0, 0, 0, 0));
        }
    }

    private static void valueByTheTableAsItIs() {
        PairTables x = ofKinds(3);
        readOf(x, 0, "b;b");
        due("all MAY BE", 7, x.value(0, 0, 0, 0));
        x.triangle(1, 1, 2, 0);
        due("not any more", 3, x.value(0, 0, 0, 0));
        x.turn(1, 2);
        due("by new TURNS", 6, x.value(0, 0, 0, 0));
        readOf(x, 0, "~b");
        due("its TURN", 4, x.value(0, 0, 0, 0));
        x.turn(1, 1);
        due("its own again", 2, x.value(0, 0, 0, 0));
    }

    private static void valueRefused() {
        PairTables x = ofKinds(3);
        readOf(x, 0, "x;y+z");
        String before = seen(x);
        for (int off : OFF) {
            due("no such TERM", -1, x.value(off, 0, 0, 0));
        }
        int[] beyond = {8, 9, 16, 256, -1, -8, Integer.MIN_VALUE, Integer.MAX_VALUE};
        for (int set : beyond) {
            due("bits beyond: x", -1, x.value(0, set, 0, 0));
            due("bits beyond: y", -1, x.value(0, 0, set, 0));
            due("bits beyond: z", -1, x.value(0, 0, 0, set));
            due("bits beyond, though it doesn't stand there", -1, x.value(1, set, 0, 0));
            due("bits beyond, though it doesn't stand there", -1, x.value(1, 0, 0, set));
        }
        unchanged("value", before, x);
        due("all", 7, x.value(0, 7, 7, 7));
    }

    private static void lawsWithoutLetters() {
        PairTables x = ofKinds(8);
        readOf(x, 0, "1");
        readOf(x, 1, "a+-a");
        readOf(x, 2, "-h");
        due("a LAW", -9, x.against(0, 1));
        due("no SETS to tell: 0", 0, x.against(0, 2));
        due("no SETS to tell: 0", 0, x.against(2, 3));
        due("one and the same", -9, x.against(2, 2));
    }

    private static void twelveIsNotTooMany() {
        PairTables x = ofKinds(4);
        readOf(x, 0, "x+y+z");
        readOf(x, 1, "z+y+x");
        due("4 times 3", -9, x.against(0, 1));
        readOf(x, 2, "x+y+z&-d");
        due("4 times 3", 8 << 8, x.against(0, 2));
        x.kinds(6);
        readOf(x, 0, "x+z");
        readOf(x, 1, "z+x");
        due("6 times 2", -9, x.against(0, 1));
        readOf(x, 2, "x+z&-f");
        due("6 times 2: y is 0", 32 << 12, x.against(0, 2));
        for (int k = 7; k <= 8; k++) {
            x.kinds(k);
            readOf(x, 0, "z");
            readOf(x, 1, "--z");
            due(k + " times 1", -9, x.against(0, 1));
        }
        readOf(x, 2, "z&-h");
        due("8 times 1: x and y are 0", 128 << 16, x.against(0, 2));
    }

    private static void thirteenIsTooMany() {
        int[] most = {0, 3, 3, 3, 3, 2, 2, 1, 1};
        String[] texts = {"1", "y", "x;z", "x+y&z"};
        for (int k = 1; k <= 8; k++) {
            PairTables x = ofKinds(k);
            for (int letters = 0; letters < 4; letters++) {
                readOf(x, letters, texts[letters]);
            }
            for (int letters = 0; letters < 4; letters++) {
                due(k + " times " + letters, letters <= most[k] ? -9 : -2, x.against(letters, letters));
            }
        }
        PairTables x = ofKinds(5);
        readOf(x, 0, "x;y;z");
        String before = seen(x);
        due("15", -2, x.against(0, 1));
        due("15", -2, x.against(1, 0));
        due("BAD before STATE", -1, x.against(0, 4));
        due("BAD before STATE", -1, x.against(-1, 0));
        unchanged("against", before, x);
    }

    private static void lettersOfBoth() {
        PairTables x = ofKinds(6);
        readOf(x, 0, "x&y");
        readOf(x, 1, "y");
        readOf(x, 2, "z&0");
        due("those of either, each once: 12", 1 << 6, x.against(0, 1));
        due("z stands in it, though it matters not: 18", -2, x.against(0, 2));
        due("y and z: 12", 1 << 6, x.against(1, 2));
        x.kinds(7);
        readOf(x, 0, "x");
        readOf(x, 1, "y");
        due("one in each: 14", -2, x.against(0, 1));
        readOf(x, 1, "x");
        due("the same one in both: 7", -9, x.against(0, 1));
        readOf(x, 1, "0");
        due("a letter that is gone: 7", 1, x.against(0, 1));
    }

    private static void againstTheLeast() {
        PairTables x = line();
        readOf(x, 0, "x;x");
        readOf(x, 1, "x");
        // none, {0}, {1}, {0, 1}, {2}, {0, 2} join to themselves; {1, 2} to all
        due("the least", 6, x.against(0, 1));
        due("either way round", 6, x.against(1, 0));
        readOf(x, 2, "x&y");
        readOf(x, 3, "x");
        due("y is 0 at the least, so x 1", 1, x.against(2, 3));
        readOf(x, 3, "y");
        due("x is 0 at the least, so y 1", 8, x.against(2, 3));
        readOf(x, 0, "x&y&z");
        readOf(x, 1, "x&y");
        due("z is 0 at the least, y 1 and x 1", 1 + 8, x.against(0, 1));
        readOf(x, 1, "y&z");
        due("x is 0 at the least, y 1 and z 1", 8 + 64, x.against(0, 1));
        readOf(x, 0, "x;y");
        readOf(x, 1, "y;x");
        due("a LAW", -9, x.against(0, 1));
    }

    private static void againstPlaces() {
        for (int k = 1; k <= 4; k++) {
            PairTables x = ofKinds(k);
            int all = (1 << k) - 1;
            String highest = "" + (char) ('a' + k - 1);
            readOf(x, 1, "x+-" + highest + "+y+z");
            readOf(x, 0, "1");
            due("all 0 at the least", 0, x.against(0, 1));
            // 1 joined to none is none, to any other has all of SAME and more: so where x, y or z is none
            readOf(x, 1, "(1;x)&(1;y)&(1;z)");
            readOf(x, 2, "0");
            due("1, 1 and 1", 1 + (1 << k) + (1 << 2 * k), x.against(1, 2));
            // just where each has the highest KIND
            readOf(x, 1, "x&y&z&" + highest);
            int high = 1 << k - 1;
            due("the highest, three times", high + (high << k) + (high << 2 * k), x.against(1, 2));
            // just where all three are all
            readOf(x, 1, "-(1;-x)&-(1;-y)&-(1;-z)");
            due("all, three times", all + (all << k) + (all << 2 * k), x.against(1, 2));
            readOf(x, 1, "-(1;-y)&a");
            due("y alone", all << k, x.against(1, 2));
            readOf(x, 1, "-(1;-z)&a");
            due("z alone", all << 2 * k, x.against(1, 2));
        }
        PairTables x = ofKinds(8);
        readOf(x, 1, "-(1;-z)");
        due("all of eight", 255 << 16, x.against(0, 1));
        readOf(x, 1, "-(1;-x)");
        due("all of eight", 255, x.against(0, 1));
    }

    private static void againstRefused() {
        PairTables x = ofKinds(3);
        readOf(x, 0, "x");
        for (int off : OFF) {
            due("no such TERM", -1, x.against(off, 0));
            due("no such TERM", -1, x.against(0, off));
            due("no such TERM", -1, x.against(off, off));
        }
    }
}
