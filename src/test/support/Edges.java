import java.util.ArrayList;
import java.util.List;

/** What the tests of edges share. Each look is told by the sentence of the document that it is of. */
final class Edges {
    static final int BAD = ColdShares.BAD, FULL = ColdShares.FULL, FINDING = ColdShares.FINDING;
    static final int STATE = ColdShares.STATE, NONE = ColdShares.NONE;
    static final int NOTHING = 1, BEYOND = 2, UNLIKE = 3, NOUGHT = 4, SIZE = 5;
    static final int MIN = Integer.MIN_VALUE, MAX = Integer.MAX_VALUE;

    private static int looks = 0;
    private static int wrong = 0;

    private Edges() {
    }

    /** Makes the same object each time. */
    interface Made {
        ColdShares make();
    }

    interface Call {
        long on(ColdShares x);
    }

    static void due(String sentence, long got, long want) {
        looks++;
        if (got != want) {
            wrong++;
            System.out.println(sentence + ": answered " + got + ", due is " + want);
        }
    }

    static void end() {
        System.out.println(wrong == 0 ? looks + " edges hold" : wrong + " of " + looks + " edges do not hold");
        if (wrong != 0) {
            System.exit(1);
        }
    }

    static void taken(String sentence, Made made, Call call, long want) {
        due(sentence, call.on(made.make()), want);
    }

    /** Taken, whatever it answers. */
    static void passes(String sentence, Made made, Call call) {
        due(sentence, call.on(made.make()) >= 0 ? 1 : 0, 1);
    }

    static void told(String sentence, ColdShares x, long got, int want) {
        due(sentence, got, 1);
        due(sentence + ", asked()", x.asked(), want);
    }

    static void chance(String sentence, ColdShares x, long got, long upper, long lower) {
        due(sentence, got, 1);
        due(sentence + ", upper()", x.upper(), upper);
        due(sentence + ", lower()", x.lower(), lower);
    }

    static void places(String sentence, ColdShares x, int r, int... want) {
        for (int i = 0; i < want.length; i++) {
            told(sentence + ", place " + i, x, x.at(r, i), want[i]);
        }
        due(sentence + ", as many", x.at(r, want.length), FINDING);
        due(sentence + ", as many, finding()", x.finding(), BEYOND);
    }

    /** BAD, FULL, STATE, NONE: nothing changes, finding() and findings() neither. */
    static void refused(String sentence, Made made, Call call, int answer) {
        leavesAll(sentence, made, call, answer, 0);
    }

    /** Taken, and all is as it was: the call only asks. */
    static void asks(String sentence, Made made, Call call, int answer) {
        leavesAll(sentence, made, call, answer, 0);
    }

    /** FINDING: nothing changes but finding() and findings() of the one that is found. */
    static void finds(String sentence, Made made, Call call, int finding) {
        leavesAll(sentence, made, call, FINDING, finding);
    }

    private static void leavesAll(String sentence, Made made, Call call, int answer, int finding) {
        ColdShares x = withOtherFinding(made, finding);
        ColdShares twin = withOtherFinding(made, finding);
        due(sentence, call.on(x), answer);
        due(sentence + ", finding()", x.finding(), finding == 0 ? twin.finding() : finding);
        for (int f = NOTHING; f <= SIZE; f++) {
            due(sentence + ", findings(" + f + ")", x.findings(f), twin.findings(f) + (f == finding ? 1 : 0));
        }
        List<Long> is = allOf(x);
        List<Long> was = allOf(twin);
        for (int i = 0; i < was.size(); i++) {
            due(sentence + ", as it was: look " + i, i < is.size() ? is.get(i) : MIN, was.get(i));
        }
    }

    private static ColdShares withOtherFinding(Made made, int finding) {
        ColdShares x = made.make();
        if (finding == SIZE) {
            due("the other finding", x.on(1), FINDING);
        } else {
            due("the other finding", x.row(0, -1), FINDING);
        }
        return x;
    }

    /** All that can be seen of it, what was kept and the DEEDS behind it, too. */
    private static List<Long> allOf(ColdShares x) {
        List<Long> all = new ArrayList<>();
        all.add((long) x.asked());
        all.add(x.upper());
        all.add(x.lower());
        all.add(x.digest());
        lookBack(x, all);
        for (int k = 0; k < 3; k++) {
            all.add((long) x.on(k));
            all.add(x.digest());
            lookBack(x, all);
        }
        return all;
    }

    private static void lookBack(ColdShares x, List<Long> all) {
        for (int deeds = x.count(3); deeds > 0; deeds = deeds > 6 ? deeds / 2 : deeds - 1) {
            all.add((long) x.undo(deeds - 1));
            all.add(x.digest());
        }
    }

    static void write(ColdShares x, int t, String signs) {
        due("text(" + t + ", " + signs.length() + ")", x.text(t, signs.length()), signs.length());
        for (int i = 0; i < signs.length(); i++) {
            if (signs.charAt(i) != ' ') {
                x.put(t, i, signs.charAt(i));
            }
        }
    }

    static ColdShares streetOf(String signs) {
        ColdShares x = new ColdShares();
        write(x, 0, signs);
        due("street of '" + signs + "'", x.street(0) > 0 ? 1 : 0, 1);
        return x;
    }

    static ColdShares rowOf(int... values) {
        ColdShares x = new ColdShares();
        x.row(0, values.length);
        for (int i = 0; i < values.length; i++) {
            x.lay(0, i, values[i]);
        }
        return x;
    }

    /**
     * Something of all: ROW 0 is 7, -8, 9, ROW 1 is empty, ROW 2 is full, ROWS 3 to 5 are missing; TEXT 0 is the STREET's,
     * TEXT 1 is empty, TEXT 2 is full of blanks, TEXT 3 is missing; in NIGHT 1 of 3 HOUSE 0 did BEAR; STREETS 0 and 2 are
     * kept, 1 is missing; asked() is -8, upper() by lower() are 1 by 10.
     */
    static ColdShares lived() {
        ColdShares x = streetOf("n473 h19 m08 c29 s60");
        x.row(0, 3);
        x.lay(0, 0, 7);
        x.lay(0, 1, -8);
        x.lay(0, 2, 9);
        x.row(1, 0);
        x.row(2, 40);
        x.lay(2, 39, 40);
        x.text(1, 0);
        x.text(2, 60);
        x.keep(0);
        x.bear(0, 3);
        x.sell(2, 3, 2);
        x.night();
        x.bear(1, 2);
        x.keep(2);
        x.undo(3);
        x.bear(0, 4);
        x.risk(3);
        x.mean(0);
        x.at(0, 1);
        return x;
    }

    /** HOUSES OWE 8, 9, 1 (7, 10, 1 by an odd number), it is NIGHT 0 of 8, of COLD 5, and there are so many DEEDS. */
    static ColdShares withDeeds(int deeds) {
        return sold(streetOf("n55555555 h28 s19 h01"), deeds);
    }

    /** It is CANDLEMAS, and there are so many DEEDS (1 at least). */
    static ColdShares candlemasWithDeeds(int deeds) {
        ColdShares x = streetOf("n5 h28 s19 h01");
        x.night();
        return sold(x, deeds - 1);
    }

    /** Sells degrees to and fro till there are so many DEEDS more. */
    private static ColdShares sold(ColdShares x, int deeds) {
        for (int i = 0; i < deeds; i++) {
            due("DEED " + i, x.sell(i % 2, 1 - i % 2, 1) > 0 ? 1 : 0, 1);
        }
        return x;
    }
}
