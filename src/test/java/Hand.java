/** What the tests by hand share: answers that are due, small tables, texts that are typed, all that can be seen. */
class Hand {
    private static int asked = 0;
    private static int wrong = 0;

    static void due(String what, long want, long got) {
        asked++;
        if (got != want) {
            wrong++;
            System.out.println(what + " answered " + got + ", due is " + want);
        }
    }

    /** All that can be seen is as it was. */
    static void unchanged(String what, String before, PairTables x) {
        asked++;
        String now = seen(x);
        if (!now.equals(before)) {
            wrong++;
            System.out.println(what + " changed" + before + " to" + now);
        }
    }

    static void end(String name) {
        System.out.println(name + ": " + asked + " answers, " + wrong + " wrong");
        if (wrong != 0) {
            System.exit(1);
        }
    }

    static PairTables ofKinds(int k) {
        PairTables x = new PairTables();
        x.kinds(k);
        return x;
    }

    /** Points on a line: 1 before, 2 after; before and before is never after. */
    static PairTables line() {
        PairTables x = ofKinds(3);
        x.turn(1, 2);
        x.triangle(1, 1, 2, 0);
        return x;
    }

    /** Two kinds, each its own turn, by none of which alone three points may stand. */
    static PairTables mixed() {
        PairTables x = ofKinds(3);
        x.triangle(1, 1, 1, 0);
        x.triangle(2, 2, 2, 0);
        return x;
    }

    /** Each pair of points has the set. */
    static void tellAll(PairTables x, int set) {
        int n = x.count(2);
        for (int i = 0; i < n; i++) {
            for (int j = i + 1; j < n; j++) {
                x.tell(i, j, set);
            }
        }
    }

    /** Types a text, as few calls as can be; the answer of the last one. */
    static int put(PairTables x, String text) {
        int answer = 0;
        for (int at = 0; at < text.length(); at += 8) {
            int many = Math.min(8, text.length() - at);
            long v = 0;
            for (int one = 0; one < many; one++) {
                v = v << 8 | text.charAt(at + one);
            }
            answer = x.type(v, many);
        }
        return answer;
    }

    static int readOf(PairTables x, int i, String text) {
        x.clear();
        put(x, text);
        return x.read(i);
    }

    /** All that can be seen without changing it, but for the bytes of the draft: those a later read shows. */
    static String seen(PairTables x) {
        StringBuilder text = new StringBuilder();
        for (int what = 0; what < 5; what++) {
            text.append(' ').append(x.count(what));
        }
        int k = x.count(0);
        text.append(" turns");
        for (int a = 0; a < k; a++) {
            text.append(' ').append(x.turned(1 << a));
        }
        text.append(" joins");
        for (int a = 1; a < k; a++) {
            for (int b = 1; b < k; b++) {
                text.append(' ').append(x.join(1 << a, 1 << b));
            }
        }
        int n = x.count(2);
        text.append(" told");
        for (int i = 0; i < n; i++) {
            for (int j = i + 1; j < n; j++) {
                text.append(' ').append(x.narrow(-1, i, j)).append('/').append(x.narrow(-1, j, i));
            }
        }
        int all = (1 << k) - 1;
        text.append(" terms");
        for (int i = 0; i < 4; i++) {
            text.append(' ').append(x.value(i, all, 0, 1)).append('/').append(x.value(i, 1, all, 0));
        }
        return text.append(" trace ").append(x.trace()).toString();
    }
}
