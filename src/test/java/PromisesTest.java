/** For each promise of the document: ordinary inputs, the edges that it names, wrong inputs. */
public final class PromisesTest {
    private static final int BAD = ColdShares.BAD, FULL = ColdShares.FULL, FINDING = ColdShares.FINDING;
    private static final int STATE = ColdShares.STATE, NONE = ColdShares.NONE;
    private static final int MIN = Integer.MIN_VALUE, MAX = Integer.MAX_VALUE;

    private static int wrong = 0;

    private static void due(int promise, String what, long got, long want) {
        if (got != want) {
            wrong++;
            System.out.println("promise " + promise + ": " + what + " answered " + got + ", due is " + want);
        }
    }

    private static void dueFinding(int promise, ColdShares x, String what, int got, int finding) {
        due(promise, what, got, FINDING);
        due(promise, what + ", finding()", x.finding(), finding);
    }

    private static void dueTold(int promise, ColdShares x, String what, int got, long told) {
        due(promise, what, got, 1);
        due(promise, what + ", asked()", x.asked(), told);
    }

    private static void dueChance(int promise, ColdShares x, String what, int got, long upper, long lower) {
        due(promise, what, got, 1);
        due(promise, what + ", upper()", x.upper(), upper);
        due(promise, what + ", lower()", x.lower(), lower);
    }

    private static void dueRow(int promise, ColdShares x, String what, int r, int... places) {
        for (int i = 0; i < places.length; i++) {
            dueTold(promise, x, what + ", place " + i, x.at(r, i), places[i]);
        }
        due(promise, what + ", behind its end", x.at(r, places.length), FINDING);
    }

    private static void write(ColdShares x, int t, String signs) {
        x.text(t, signs.length());
        for (int i = 0; i < signs.length(); i++) {
            x.put(t, i, signs.charAt(i));
        }
    }

    private static ColdShares streetOf(String signs) {
        ColdShares x = new ColdShares();
        write(x, 0, signs);
        if (x.street(0) < 1) {
            wrong++;
            System.out.println("no street by " + signs);
        }
        return x;
    }

    private static ColdShares rowOf(int... values) {
        ColdShares x = new ColdShares();
        x.row(0, values.length);
        for (int i = 0; i < values.length; i++) {
            x.lay(0, i, values[i]);
        }
        return x;
    }

    public static void main(String[] args) {
        newObject();
        row();
        layAndAt();
        tear();
        copy();
        mean();
        text();
        put();
        fault();
        street();
        house();
        cold();
        mark();
        wind();
        bear();
        sell();
        night();
        undo();
        keepAndOn();
        hurt();
        most();
        least();
        price();
        late();
        gain();
        sales();
        share();
        saves();
        part();
        ice();
        odds();
        risk();
        lots();
        asked();
        upperAndLower();
        count();
        finding();
        digest();
        System.out.println(wrong == 0 ? "all promises are kept" : wrong + " answers are not as due");
        if (wrong != 0) {
            System.exit(1);
        }
    }

    private static void newObject() {
        ColdShares x = new ColdShares();
        for (int what = 0; what < 10; what++) {
            due(1, "count(" + what + ")", x.count(what), 0);
        }
        for (int r = 0; r < 6; r++) {
            due(1, "at(" + r + ", 0)", x.at(r, 0), FINDING);
        }
        for (int t = 0; t < 4; t++) {
            due(1, "fault(" + t + ")", x.fault(t), FINDING);
        }
        due(1, "house(0, 0)", x.house(0, 0), BAD);
    }

    private static void row() {
        ColdShares x = new ColdShares();
        due(2, "row(0, 40)", x.row(0, 40), 40);
        dueTold(2, x, "at(0, 39)", x.at(0, 39), 0);
        due(2, "row(5, 0)", x.row(5, 0), 0);
        due(2, "row(0, 41)", x.row(0, 41), BAD);
        due(2, "row(6, 0)", x.row(6, 0), BAD);
        due(2, "row(-1, 0)", x.row(-1, 0), BAD);
        due(2, "row(6, -1)", x.row(6, -1), BAD);
        due(2, "row(0, MAX)", x.row(0, MAX), BAD);
        dueFinding(2, x, "row(0, -1)", x.row(0, -1), 5);
        dueFinding(2, x, "row(0, MIN)", x.row(0, MIN), 5);
        dueTold(2, x, "refused, it is as it was", x.at(0, 39), 0);
        x.lay(0, 1, 7);
        due(2, "row(0, 2) anew", x.row(0, 2), 2);
        dueRow(2, x, "anew all are 0", 0, 0, 0);
        due(2, "row(0, 3) anew", x.row(0, 3), 3);
        dueRow(2, x, "longer again", 0, 0, 0, 0);
        due(2, "count(7)", x.count(7), 2);
    }

    private static void layAndAt() {
        ColdShares x = new ColdShares();
        dueFinding(3, x, "lay(0, 0, 1) of none", x.lay(0, 0, 1), 1);
        dueFinding(4, x, "at(0, 0) of none", x.at(0, 0), 1);
        x.row(0, 2);
        dueTold(3, x, "lay(0, 1, MIN)", x.lay(0, 1, MIN), 0);
        dueTold(3, x, "lay(0, 1, 5)", x.lay(0, 1, 5), MIN);
        dueTold(4, x, "at(0, 1)", x.at(0, 1), 5);
        dueTold(4, x, "at(0, 0)", x.at(0, 0), 0);
        for (int i : new int[] {-1, 2, MIN, MAX}) {
            dueFinding(3, x, "lay(0, " + i + ", 1)", x.lay(0, i, 1), 2);
            dueFinding(4, x, "at(0, " + i + ")", x.at(0, i), 2);
        }
        for (int r : new int[] {-1, 6, MIN, MAX}) {
            due(3, "lay(" + r + ", 0, 1)", x.lay(r, 0, 1), BAD);
            due(4, "at(" + r + ", 0)", x.at(r, 0), BAD);
        }
        due(3, "refused, asked() is as it was", x.asked(), 0);
        x.row(1, 0);
        dueFinding(4, x, "at(1, 0) of an empty one", x.at(1, 0), 2);
    }

    private static void tear() {
        ColdShares x = rowOf(1, 2);
        due(5, "tear(0)", x.tear(0), 1);
        dueFinding(5, x, "tear(0) again", x.tear(0), 1);
        dueFinding(5, x, "at(0, 0)", x.at(0, 0), 1);
        due(5, "count(7)", x.count(7), 0);
        due(5, "tear(6)", x.tear(6), BAD);
        due(5, "tear(-1)", x.tear(-1), BAD);
    }

    private static void copy() {
        ColdShares x = rowOf(1, 2, 3, 4, 5);
        due(6, "copy(0, 0, 0, 1, 4)", x.copy(0, 0, 0, 1, 4), 1);
        dueRow(6, x, "as if taken ahead", 0, 1, 1, 2, 3, 4);
        due(6, "copy(0, 1, 0, 0, 4)", x.copy(0, 1, 0, 0, 4), 1);
        dueRow(6, x, "to the front", 0, 1, 2, 3, 4, 4);
        x.row(3, 2);
        due(6, "copy(0, 2, 3, 0, 2)", x.copy(0, 2, 3, 0, 2), 1);
        dueRow(6, x, "another one", 3, 3, 4);
        due(6, "copy(0, 5, 3, 2, 0)", x.copy(0, 5, 3, 2, 0), 1);
        dueFinding(6, x, "copy(0, 6, 3, 0, 0)", x.copy(0, 6, 3, 0, 0), 2);
        dueFinding(6, x, "copy(0, 0, 3, 3, 0)", x.copy(0, 0, 3, 3, 0), 2);
        dueFinding(6, x, "copy(0, -1, 3, 0, 1)", x.copy(0, -1, 3, 0, 1), 2);
        dueFinding(6, x, "copy(0, 0, 3, -1, 1)", x.copy(0, 0, 3, -1, 1), 2);
        dueFinding(6, x, "copy(0, 0, 3, 0, 3)", x.copy(0, 0, 3, 0, 3), 2);
        dueFinding(6, x, "copy(3, 0, 0, 0, 3)", x.copy(3, 0, 0, 0, 3), 2);
        dueFinding(6, x, "copy(0, MAX, 3, 0, MAX)", x.copy(0, MAX, 3, 0, MAX), 2);
        dueFinding(6, x, "copy(0, 1, 3, 1, MAX)", x.copy(0, 1, 3, 1, MAX), 2);
        dueFinding(6, x, "copy(0, 0, 1, 0, 1)", x.copy(0, 0, 1, 0, 1), 1);
        dueFinding(6, x, "copy(1, 0, 0, 0, 1)", x.copy(1, 0, 0, 0, 1), 1);
        dueFinding(6, x, "copy(1, 0, 0, 0, -1)", x.copy(1, 0, 0, 0, -1), 5);
        due(6, "copy(6, 0, 0, 0, -1)", x.copy(6, 0, 0, 0, -1), BAD);
        due(6, "copy(0, 0, -1, 0, 1)", x.copy(0, 0, -1, 0, 1), BAD);
        dueRow(6, x, "refused, it is as it was", 3, 3, 4);
    }

    private static void mean() {
        ColdShares x = rowOf(1, 2, 2);
        dueTold(7, x, "mean of 1, 2, 2", x.mean(0), 1);
        dueTold(7, rowed(x, -1, -2, -2), "mean of -1, -2, -2", x.mean(0), -1);
        dueTold(7, rowed(x, MAX, MAX, MAX), "mean of MAX thrice", x.mean(0), MAX);
        dueTold(7, rowed(x, MIN, MIN, MIN), "mean of MIN thrice", x.mean(0), MIN);
        dueFinding(7, x, "mean(1) of none", x.mean(1), 1);
        x.row(1, 0);
        dueFinding(7, x, "mean(1) of nought", x.mean(1), 4);
        due(7, "mean(6)", x.mean(6), BAD);
        due(7, "refused, asked() is as it was", x.asked(), MIN);
    }

    private static ColdShares rowed(ColdShares x, int a, int b, int c) {
        x.lay(0, 0, a);
        x.lay(0, 1, b);
        x.lay(0, 2, c);
        return x;
    }

    private static void text() {
        ColdShares x = new ColdShares();
        due(8, "text(3, 60)", x.text(3, 60), 60);
        due(8, "put(3, 59, 1)", x.put(3, 59, 1), 1032);
        due(8, "text(3, 60) anew", x.text(3, 60), 60);
        due(8, "put(3, 59, 1) anew", x.put(3, 59, 1), 1032);
        due(8, "text(0, 0)", x.text(0, 0), 0);
        due(8, "text(0, 61)", x.text(0, 61), BAD);
        due(8, "text(4, 1)", x.text(4, 1), BAD);
        due(8, "text(-1, -1)", x.text(-1, -1), BAD);
        dueFinding(8, x, "text(0, -1)", x.text(0, -1), 5);
        due(8, "count(8)", x.count(8), 2);
    }

    private static void put() {
        ColdShares x = new ColdShares();
        dueFinding(9, x, "put(0, 0, 1) of none", x.put(0, 0, 1), 1);
        x.text(0, 2);
        due(9, "put(0, 0, 127)", x.put(0, 0, 127), 1032);
        due(9, "put(0, 0, 128)", x.put(0, 0, 128), 1127);
        due(9, "put(0, 0, 511), a byte is from -128 on", x.put(0, 0, 511), 872);
        due(9, "put(0, 0, 256)", x.put(0, 0, 256), 999);
        due(9, "put(0, 0, 0)", x.put(0, 0, 0), 1000);
        dueFinding(9, x, "put(0, 2, 1)", x.put(0, 2, 1), 2);
        dueFinding(9, x, "put(0, -1, 1)", x.put(0, -1, 1), 2);
        dueFinding(9, x, "put(0, MAX, 1)", x.put(0, MAX, 1), 2);
        due(9, "put(4, 0, 1)", x.put(4, 0, 1), BAD);
        due(9, "put(-1, 0, 1)", x.put(-1, 0, 1), BAD);
    }

    private static void dueFault(String signs, int want) {
        ColdShares x = new ColdShares();
        write(x, 2, signs);
        due(10, "fault of '" + signs + "'", x.fault(2), want);
        due(11, "street of '" + signs + "'", x.street(2) > 0 ? NONE : STATE, want == NONE ? NONE : STATE);
    }

    private static void fault() {
        dueFault("n1h11", NONE);
        dueFault("  n12345678   h11s22p33  m44y55  ", NONE);
        dueFault("n0c00", NONE);
        dueFault("", 0);
        dueFault("   ", 3);
        dueFault("  x", 2);
        dueFault("n", 1);
        dueFault("n ", 1);
        dueFault("n 1h11", 1);
        dueFault("nh11", 1);
        dueFault("n1", 2);
        dueFault("n1   ", 5);
        dueFault("n1 2", 3);
        dueFault("n123456789h11", 9);
        dueFault("n12345678 9h11", 10);
        dueFault("n1 h", 4);
        dueFault("n1 h1", 5);
        dueFault("n1 h 11", 4);
        dueFault("n1 h1 1", 5);
        dueFault("n1 h111", 6);
        dueFault("n1 h1/", 5);
        dueFault("n1 h1:", 5);
        dueFault("n1 H11", 3);
        dueFault("n1 x11", 3);
        dueFault("n1 n1", 3);
        dueFault("h11 n1", 0);
        dueFault("n1 h11 h11 h11 h11 h11 h11", 23);
        dueFault("n1 h11 h11 h11 h11 h11 7", 23);
        dueFault("n1 h11 h11 h11 h11 h11   ", NONE);
        dueFault("n1\th11", 2);
        ColdShares x = new ColdShares();
        dueFinding(10, x, "fault(0) of none", x.fault(0), 1);
        due(10, "fault(4)", x.fault(4), BAD);
        due(10, "fault(-1)", x.fault(-1), BAD);
        write(x, 0, "n1 h11");
        x.put(0, 3, 256 + 'h');
        due(10, "a letter cut to a byte", x.fault(0), NONE);
        x.put(0, 3, -1);
        due(10, "byte -1", x.fault(0), 3);
        due(10, "no STREET comes of it", x.count(0), 0);
    }

    private static void street() {
        ColdShares x = new ColdShares();
        write(x, 0, "n54 h26 s17");
        due(11, "street(0)", x.street(0), 2);
        x.bear(0, 1);
        x.night();
        x.keep(0);
        write(x, 1, "n9");
        due(11, "street(1), a FAULT", x.street(1), STATE);
        dueFinding(11, x, "street(2) of none", x.street(2), 1);
        due(11, "street(4)", x.street(4), BAD);
        due(11, "street(-1)", x.street(-1), BAD);
        due(11, "refused, the DEEDS are as they were", x.count(3), 2);
        due(11, "refused, what is kept is as it was", x.count(9), 1);
        due(11, "street(0) anew", x.street(0), 2);
        due(11, "anew: NIGHT", x.count(2), 0);
        due(11, "anew: DEEDS", x.count(3), 0);
        due(11, "anew: OWED", x.count(4), 13);
        due(11, "anew: kept", x.count(9), 0);
        dueFinding(11, x, "on(0)", x.on(0), 1);
    }

    private static void house() {
        ColdShares x = streetOf("n52 m38 h26 c10 y99");
        dueTold(12, x, "house(0, 0)", x.house(0, 0), 3);
        dueTold(12, x, "house(2, 0)", x.house(2, 0), 5);
        dueTold(12, x, "house(3, 0)", x.house(3, 0), 4);
        dueTold(12, x, "house(0, 1)", x.house(0, 1), 3);
        dueTold(12, x, "house(0, 2)", x.house(0, 2), 8);
        dueTold(12, x, "house(0, 5), a MISER", x.house(0, 5), 2);
        dueTold(12, x, "house(3, 5), a MAYOR", x.house(3, 5), 2);
        dueTold(12, x, "house(1, 5)", x.house(1, 5), 5);
        dueTold(12, x, "house(2, 5), OWES nothing", x.house(2, 5), 0);
        dueTold(12, x, "house(1, 4)", x.house(1, 4), NONE);
        x.bear(1, 4);
        dueTold(12, x, "behind bear: house(1, 2)", x.house(1, 2), 2);
        dueTold(12, x, "behind bear: house(1, 3)", x.house(1, 3), 4);
        dueTold(12, x, "behind bear: house(1, 4)", x.house(1, 4), 4);
        dueTold(12, x, "behind bear: house(1, 5)", x.house(1, 5), 0);
        x.night();
        dueTold(12, x, "next NIGHT: house(1, 3)", x.house(1, 3), 4);
        dueTold(12, x, "next NIGHT: house(1, 4)", x.house(1, 4), NONE);
        dueTold(12, x, "next NIGHT: house(1, 5)", x.house(1, 5), 2);
        x.night();
        dueTold(12, x, "CANDLEMAS: house(1, 5)", x.house(1, 5), 0);
        dueTold(12, x, "CANDLEMAS: house(1, 4)", x.house(1, 4), NONE);
        int[][] bad = {{-1, 0}, {4, 0}, {5, 0}, {0, 6}, {0, -1}, {MAX, MAX}, {MIN, MIN}};
        for (int[] of : bad) {
            due(12, "house(" + of[0] + ", " + of[1] + ")", x.house(of[0], of[1]), BAD);
        }
    }

    private static void cold() {
        ColdShares x = streetOf("n509 h11");
        due(13, "cold(0)", x.cold(0), 5);
        due(13, "cold(1)", x.cold(1), 0);
        due(13, "cold(2)", x.cold(2), 9);
        due(13, "cold(3)", x.cold(3), BAD);
        due(13, "cold(-1)", x.cold(-1), BAD);
        due(13, "cold(8)", x.cold(8), BAD);
        due(13, "cold(0) without a STREET", new ColdShares().cold(0), BAD);
    }

    private static void mark() {
        ColdShares x = streetOf("n9 s09 p39 m28 y19 c29");
        due(14, "STOUT", x.mark(0, 1), 2);
        due(14, "POOR", x.mark(1, 2), 36);
        due(14, "MISER", x.mark(2, 3), 4);
        due(14, "a MAYOR as a MISER", x.mark(3, 3), 5);
        due(14, "MAYOR", x.mark(3, 4), 64);
        due(14, "CHILDREN as POOR", x.mark(4, 2), 2 * 64 - 49);
        due(14, "CHILDREN", x.mark(4, 5), 2);
        boolean[][] is = {
            {true, false, false, false, false}, {false, true, false, false, false},
            {false, false, true, false, false}, {false, false, true, true, false},
            {false, true, false, false, true}};
        for (int h = 0; h < 5; h++) {
            for (int kind = 1; kind <= 5; kind++) {
                if (!is[h][kind - 1]) {
                    dueFinding(14, x, "mark(" + h + ", " + kind + ")", x.mark(h, kind), 3);
                }
            }
            due(14, "mark(" + h + ", 0)", x.mark(h, 0), BAD);
            due(14, "mark(" + h + ", 6)", x.mark(h, 6), BAD);
            due(14, "mark(" + h + ", -1)", x.mark(h, -1), BAD);
        }
        due(14, "mark(5, 1)", x.mark(5, 1), BAD);
        due(14, "mark(-1, 1)", x.mark(-1, 1), BAD);
        x.sell(1, 3, 9);
        due(14, "a MAYOR that bought", x.mark(3, 4), 17 * 17);
        due(14, "a MAYOR that bought, as a MISER", x.mark(3, 3), 9);
        x.sell(2, 1, 8);
        due(14, "a MISER that OWES nothing", x.mark(2, 3), 0);
        ColdShares warm = streetOf("n9 s99 p99 y90 c99 c00");
        due(14, "warm STOUT", warm.mark(0, 1), 9);
        due(14, "warm POOR", warm.mark(1, 2), 0);
        due(14, "a MAYOR that OWES nothing", warm.mark(2, 4), 0);
        due(14, "warm CHILDREN", warm.mark(3, 5), 9);
        due(14, "warm CHILDREN as POOR", warm.mark(3, 2), 2);
        due(14, "cold CHILDREN", warm.mark(4, 5), 1);
        ColdShares plain = streetOf("n9 h00");
        for (int kind = 1; kind <= 5; kind++) {
            dueFinding(14, plain, "a HOUSE, KIND " + kind, plain.mark(0, kind), 3);
        }
    }

    private static void wind() {
        ColdShares x = streetOf("n52 h26");
        due(15, "wind(1, 9)", x.wind(1, 9), 2);
        due(15, "cold(1)", x.cold(1), 9);
        due(15, "wind(1, 0)", x.wind(1, 0), 9);
        due(15, "wind(2, 0)", x.wind(2, 0), BAD);
        due(15, "wind(-1, 0)", x.wind(-1, 0), BAD);
        due(15, "wind(0, 10)", x.wind(0, 10), BAD);
        due(15, "wind(0, -1)", x.wind(0, -1), BAD);
        x.keep(0);
        x.wind(0, 7);
        x.on(0);
        due(15, "what is kept has its own COLD", x.cold(0), 5);
        x.night();
        due(15, "there are DEEDS", x.wind(0, 0), STATE);
        due(15, "BAD ahead of STATE", x.wind(0, 10), BAD);
        x.undo(0);
        due(15, "DEEDS undone", x.wind(0, 0), 5);
        due(15, "without a STREET", new ColdShares().wind(0, 0), BAD);
    }

    private static void bear() {
        ColdShares x = streetOf("n59 h26 s17 p34 m28 c19");
        due(16, "bear(0, 6), above the COLD", x.bear(0, 6), STATE);
        due(16, "bear(3, 3), a MISER", x.bear(3, 3), STATE);
        due(16, "bear(2, 5), above what it OWES", x.bear(2, 5), STATE);
        due(16, "bear(0, 5)", x.bear(0, 5), 9);
        due(16, "bear(1, 5)", x.bear(1, 5), 4);
        due(16, "bear(2, 4)", x.bear(2, 4), 2);
        due(16, "bear(3, 2)", x.bear(3, 2), 0);
        due(16, "bear(4, 5)", x.bear(4, 5), 50);
        due(16, "bear(0, 1) twice", x.bear(0, 1), STATE);
        due(16, "bear(0, 0)", x.bear(0, 0), BAD);
        due(16, "bear(0, MIN)", x.bear(0, MIN), BAD);
        due(16, "bear(0, MAX)", x.bear(0, MAX), STATE);
        due(16, "bear(5, 1)", x.bear(5, 1), BAD);
        due(16, "bear(-1, 1)", x.bear(-1, 1), BAD);
        due(16, "DEEDS", x.count(3), 5);
        due(16, "OWED", x.count(4), 34 - 21);
        x.night();
        due(16, "next NIGHT", x.bear(0, 1), 0);
        x.night();
        due(16, "CANDLEMAS", x.bear(1, 1), STATE);
        ColdShares full = fullOfDeeds();
        due(16, "FULL", full.bear(0, 1), FULL);
        due(16, "STATE ahead of FULL", full.bear(0, 9), STATE);
        due(16, "BAD ahead of FULL", full.bear(0, 0), BAD);
    }

    /** 60 DEEDS; HOUSE 0 OWES 8 of its 9, at COLD 5. */
    private static ColdShares fullOfDeeds() {
        ColdShares x = streetOf("n55 h29 s19");
        for (int i = 0; i < 29; i++) {
            x.sell(0, 1, 1);
            x.sell(1, 0, 1);
        }
        x.sell(0, 1, 2);
        due(17, "the 60th DEED", x.sell(1, 0, 1), 8);
        due(17, "DEEDS", x.count(3), 60);
        return x;
    }

    private static void sell() {
        ColdShares x = streetOf("n5 h26 s17 p20");
        due(17, "sell(0, 1, 6)", x.sell(0, 1, 6), 13);
        due(17, "sell(0, 1, 1) of nothing", x.sell(0, 1, 1), STATE);
        due(17, "sell(1, 2, MAX)", x.sell(1, 2, MAX), STATE);
        due(17, "sell(1, 2, 13)", x.sell(1, 2, 13), 13);
        due(17, "sell(2, 2, 1)", x.sell(2, 2, 1), BAD);
        due(17, "sell(2, 3, 1)", x.sell(2, 3, 1), BAD);
        due(17, "sell(3, 2, 1)", x.sell(3, 2, 1), BAD);
        due(17, "sell(-1, 2, 1)", x.sell(-1, 2, 1), BAD);
        due(17, "sell(2, 0, 0)", x.sell(2, 0, 0), BAD);
        due(17, "sell(2, 0, -1)", x.sell(2, 0, -1), BAD);
        dueTold(17, x, "house(1, 2)", x.house(1, 2), 0);
        due(17, "all OWED", x.count(4), 13);
        due(17, "DEEDS", x.count(3), 2);
        x.night();
        due(17, "at CANDLEMAS, too", x.sell(2, 0, 3), 3);
        ColdShares full = fullOfDeeds();
        due(17, "FULL", full.sell(0, 1, 1), FULL);
        due(17, "STATE ahead of FULL", full.sell(0, 1, 9), STATE);
        due(17, "BAD ahead of FULL", full.sell(0, 0, 1), BAD);
    }

    private static void night() {
        ColdShares x = streetOf("n512 h26");
        due(18, "night()", x.night(), 2);
        due(18, "night() 2", x.night(), 1);
        due(18, "night() 3", x.night(), 0);
        due(18, "night() at CANDLEMAS", x.night(), STATE);
        due(18, "count(2)", x.count(2), 3);
        due(18, "count(3)", x.count(3), 3);
        due(18, "without HOUSES", new ColdShares().night(), STATE);
        due(18, "FULL", fullOfDeeds().night(), FULL);
        ColdShares late = streetOf("n5 h29 s19");
        late.night();
        for (int i = 0; i < 59; i++) {
            late.sell(i % 2, 1 - i % 2, 1);
        }
        due(18, "60 DEEDS at CANDLEMAS", late.count(3), 60);
        due(18, "STATE ahead of FULL", late.night(), STATE);
    }

    private static void undo() {
        ColdShares x = streetOf("n54 h26 c17");
        x.bear(0, 4);
        x.bear(1, 2);
        x.night();
        x.sell(1, 0, 3);
        x.bear(0, 1);
        due(19, "undo(6)", x.undo(6), BAD);
        due(19, "undo(-1)", x.undo(-1), BAD);
        due(19, "undo(MIN)", x.undo(MIN), BAD);
        due(19, "undo(5)", x.undo(5), 0);
        due(19, "undo(4)", x.undo(4), 1);
        dueTold(19, x, "house(0, 4)", x.house(0, 4), NONE);
        dueTold(19, x, "house(0, 2)", x.house(0, 2), 5);
        due(19, "undo(2)", x.undo(2), 2);
        due(19, "count(2)", x.count(2), 0);
        dueTold(19, x, "the NIGHT before again", x.house(1, 4), 2);
        dueTold(19, x, "what was sold is back", x.house(1, 2), 5);
        dueTold(19, x, "house(1, 3)", x.house(1, 3), 8);
        due(19, "count(5)", x.count(5), 12);
        due(19, "undo(0)", x.undo(0), 2);
        due(19, "count(5), none", x.count(5), 0);
        due(19, "count(4), all", x.count(4), 13);
        due(19, "without HOUSES", new ColdShares().undo(0), 0);
        due(19, "without HOUSES", new ColdShares().undo(1), BAD);
    }

    private static void keepAndOn() {
        ColdShares x = streetOf("n54 h26 c17");
        dueFinding(21, x, "on(0) of none", x.on(0), 1);
        x.bear(0, 4);
        due(20, "keep(0)", x.keep(0), 1);
        x.night();
        x.sell(1, 0, 2);
        due(20, "keep(2)", x.keep(2), 3);
        due(20, "keep(3)", x.keep(3), BAD);
        due(20, "keep(-1)", x.keep(-1), BAD);
        due(20, "keep(0) without HOUSES", new ColdShares().keep(0), STATE);
        due(20, "BAD ahead of STATE", new ColdShares().keep(3), BAD);
        due(20, "count(9)", x.count(9), 2);
        due(21, "on(0)", x.on(0), 1);
        due(21, "count(2)", x.count(2), 0);
        dueTold(21, x, "house(0, 4)", x.house(0, 4), 4);
        dueTold(21, x, "house(0, 3)", x.house(0, 3), 4);
        x.undo(0);
        due(21, "on(2)", x.on(2), 3);
        dueTold(21, x, "house(0, 2)", x.house(0, 2), 4);
        due(21, "what is kept can be undone", x.undo(1), 2);
        due(21, "on(2) again", x.on(2), 3);
        dueFinding(21, x, "on(1) of none", x.on(1), 1);
        due(21, "on(3)", x.on(3), BAD);
        due(21, "on(-1)", x.on(-1), BAD);
        x.on(0);
        due(20, "keep(2) anew", x.keep(2), 1);
        due(21, "on(2) anew", x.on(2), 1);
    }

    private static void hurt() {
        ColdShares x = streetOf("n1 h20 s20 p20 m20 c20");
        int[] at5 = {9, 1, 18, 9, 32};
        for (int h = 0; h < 5; h++) {
            due(22, "hurt(" + h + ", 5)", x.hurt(h, 5), at5[h]);
            due(22, "hurt(" + h + ", 0)", x.hurt(h, 0), 0);
            due(22, "hurt(" + h + ", 10)", x.hurt(h, 10), BAD);
            due(22, "hurt(" + h + ", -1)", x.hurt(h, -1), BAD);
        }
        due(22, "hurt(0, 2)", x.hurt(0, 2), 0);
        due(22, "hurt(0, 3)", x.hurt(0, 3), 1);
        due(22, "hurt(4, 2)", x.hurt(4, 2), 2);
        due(22, "hurt(5, 1)", x.hurt(5, 1), BAD);
        due(22, "hurt(-1, 1)", x.hurt(-1, 1), BAD);
        ColdShares y = streetOf("n1 y00 c00");
        due(22, "a MAYOR", y.hurt(0, 9), 0);
        due(22, "CHILDREN, 0 WARM at least", y.hurt(1, 9), 162);
    }

    private static void most() {
        ColdShares x = streetOf("n5109 h20 m20 y29");
        due(23, "most(0)", x.most(0), 15);
        due(23, "most(1)", x.most(1), 5);
        due(23, "most(2)", x.most(2), 5);
        x.bear(2, 1);
        due(23, "it did BEAR", x.most(2), 3);
        x.night();
        due(23, "a NIGHT on", x.most(0), 10);
        due(23, "most(3)", x.most(3), BAD);
        due(23, "most(-1)", x.most(-1), BAD);
        x.night();
        x.night();
        x.night();
        due(23, "CANDLEMAS", x.most(0), 0);
        due(23, "eight NIGHTS", streetOf("n99999999 h00").most(0), 72);
    }

    private static void least() {
        ColdShares x = streetOf("n5392 h26 c19 m28 m19");
        due(24, "least(0, 1)", x.least(0, 1), 0);
        dueRow(24, x, "the first PLAN", 1, 0, 2, 2, 2);
        due(24, "least(1, 1)", x.least(1, 1), 42);
        dueRow(24, x, "CHILDREN", 1, 2, 2, 3, 2);
        due(24, "least(2, 1)", x.least(2, 1), 0);
        dueRow(24, x, "a MISER", 1, 2, 2, 2, 2);
        due(24, "least(3, 1), too much", x.least(3, 1), NONE);
        dueRow(24, x, "NONE: the ROW is as it was", 1, 2, 2, 2, 2);
        due(24, "least(4, 1)", x.least(4, 1), BAD);
        due(24, "least(-1, 1)", x.least(-1, 1), BAD);
        due(24, "least(0, 6)", x.least(0, 6), BAD);
        due(24, "least(0, -1)", x.least(0, -1), BAD);
        x.bear(0, 1);
        due(24, "it did BEAR", x.least(0, 2), 0);
        dueRow(24, x, "nothing tonight", 2, 0, 1, 2, 2);
        x.night();
        due(24, "a NIGHT on", x.least(0, 2), 0);
        dueRow(24, x, "three NIGHTS", 2, 1, 2, 2);
        x.night();
        x.night();
        x.night();
        due(24, "CANDLEMAS", x.least(0, 3), NONE);
        x.sell(0, 1, 5);
        due(24, "CANDLEMAS, nothing OWED", x.least(0, 3), 0);
        dueRow(24, x, "no NIGHTS", 3);
        ColdShares eight = streetOf("n99999999 h09 h09 h09 h09 h09");
        for (int h = 1; h < 5; h++) {
            eight.sell(h, 0, 9);
        }
        due(24, "all of five", eight.least(0, 0), 5 * 36 + 3 * 25);
        dueRow(24, eight, "all of five", 0, 5, 5, 5, 6, 6, 6, 6, 6);
    }

    private static void price() {
        ColdShares x = streetOf("n5392 h26 c19 m28 m19 y00");
        due(25, "price(0)", x.price(0), 0);
        due(25, "price(1)", x.price(1), 10);
        due(25, "all that it can", x.price(2), NONE);
        due(25, "no PLAN", x.price(3), NONE);
        due(25, "a MAYOR", x.price(4), 0);
        due(25, "price(5)", x.price(5), BAD);
        due(25, "price(-1)", x.price(-1), BAD);
        due(25, "the ROWS are as they were", x.count(7), 0);
        ColdShares eight = streetOf("n99999999 h09 h09 h09 h09 h09");
        for (int h = 1; h < 5; h++) {
            eight.sell(h, 0, 9);
        }
        due(25, "the 46th degree", eight.price(0), 11);
    }

    private static void late() {
        ColdShares x = streetOf("n44 m09 c04 h09 y05");
        due(26, "late()", x.late(), 1 + 4 + 8);
        due(26, "asked()", x.asked(), 16);
        ColdShares fine = streetOf("n44 h24 p05");
        due(26, "none late", fine.late(), 0);
        due(26, "asked()", fine.asked(), 2 * (4 + 9));
        fine.night();
        fine.night();
        due(26, "all late", fine.late(), 3);
        due(26, "asked(), none", fine.asked(), 0);
        ColdShares none = rowOf(7);
        none.at(0, 0);
        due(26, "no HOUSES", none.late(), 0);
        due(26, "no HOUSES, asked()", none.asked(), 0);
    }

    private static void gain() {
        ColdShares x = streetOf("n5392 h26 c19 m28 m19 s00");
        due(27, "CHILDREN sell", x.gain(1, 4), 110);
        due(27, "CHILDREN buy", x.gain(0, 1), 90);
        due(27, "alike", x.gain(2, 0), 100);
        due(27, "no PLAN behind it", x.gain(0, 2), NONE);
        due(27, "no PLAN ahead of it", x.gain(3, 0), NONE);
        due(27, "no PLAN of the other one", x.gain(0, 3), NONE);
        due(27, "it OWES none", x.gain(4, 0), NONE);
        due(27, "gain(0, 0)", x.gain(0, 0), BAD);
        due(27, "gain(0, 5)", x.gain(0, 5), BAD);
        due(27, "gain(5, 0)", x.gain(5, 0), BAD);
        due(27, "gain(-1, 0)", x.gain(-1, 0), BAD);
        due(27, "nothing is sold by it", x.count(3), 0);
    }

    private static void sales() {
        ColdShares x = streetOf("n99 c08 c08 s03 s03");
        due(28, "sales()", x.sales(), 4);
        due(28, "the first that gains most", x.asked(), 2);
        x.sell(0, 2, 1);
        due(28, "sales() 2", x.sales(), 4);
        due(28, "to who OWES less", x.asked(), 3);
        ColdShares none = streetOf("n99 h11 h11");
        due(28, "nobody gains", none.sales(), 0);
        due(28, "nobody, asked()", none.asked(), NONE);
        ColdShares empty = new ColdShares();
        due(28, "no HOUSES", empty.sales(), 0);
        due(28, "no HOUSES, asked()", empty.asked(), NONE);
    }

    private static void share() {
        ColdShares x = streetOf("n5392 h26 s17 p34 m28 c19");
        due(29, "share(2)", x.share(2), 0);
        dueRow(29, x, "the first", 2, 4, 11, 11, 8, 0);
        ColdShares two = streetOf("n9 h05 h05");
        due(29, "two alike", two.share(0), 50);
        dueRow(29, two, "two alike", 0, 5, 5);
        two.sell(0, 1, 3);
        due(29, "as if sold back", two.share(0), 50);
        ColdShares odd = streetOf("n9 h05 h04");
        due(29, "the fewer ahead", odd.share(0), 41);
        dueRow(29, odd, "the fewer ahead", 0, 4, 5);
        ColdShares tight = streetOf("n3 m09 h00");
        due(29, "they can't", tight.share(0), NONE);
        dueFinding(29, tight, "NONE: no ROW", tight.at(0, 0), 1);
        due(29, "share(6)", tight.share(6), BAD);
        due(29, "share(-1)", tight.share(-1), BAD);
        ColdShares late = streetOf("n9 m03 h00");
        due(29, "one is late by itself", late.share(5), 5);
        dueRow(29, late, "one is late by itself", 5, 1, 2);
        due(29, "no HOUSES", new ColdShares().share(0), STATE);
        due(29, "BAD ahead of STATE", new ColdShares().share(6), BAD);
    }

    private static void saves() {
        ColdShares x = streetOf("n9 h09 h00 m03");
        due(30, "saves(0)", x.saves(0), 0);
        due(30, "saves(1)", x.saves(1), 0);
        due(30, "saves(3)", x.saves(3), 81 - 41);
        due(30, "one of them has no PLAN", x.saves(5), NONE);
        due(30, "that one aside", x.saves(2), 0);
        due(30, "saves(8)", x.saves(8), BAD);
        due(30, "saves(-1)", x.saves(-1), BAD);
        due(30, "saves(MIN)", x.saves(MIN), BAD);
        due(30, "no HOUSES, saves(0)", new ColdShares().saves(0), 0);
        due(30, "no HOUSES, saves(1)", new ColdShares().saves(1), BAD);
    }

    private static void part() {
        ColdShares two = streetOf("n9 h09 h00");
        dueChance(31, two, "part(0) of two", two.part(0), 20, 1);
        dueChance(31, two, "part(1) of two", two.part(1), 20, 1);
        ColdShares three = streetOf("n9 h09 h00 h00");
        // 81 alone; two save 81 - 41, three 81 - 27, the two others nothing.
        dueChance(31, three, "part(0) of three", three.part(0), (2 * 54 + 2 * 40) / 2, 6 / 2);
        dueChance(31, three, "part(1) of three", three.part(1), (40 + 2 * 14) / 2, 6 / 2);
        due(31, "part(3)", three.part(3), BAD);
        due(31, "part(-1)", three.part(-1), BAD);
        ColdShares one = streetOf("n9 c09");
        dueChance(31, one, "part(0) of one", one.part(0), 0, 1);
        ColdShares late = streetOf("n9 h09 m03");
        late.risk(0);
        due(31, "one has no PLAN", late.part(0), NONE);
        due(31, "NONE: upper() is as it was", late.upper(), 9);
        due(31, "BAD ahead of NONE", late.part(2), BAD);
    }

    private static void ice() {
        ColdShares x = streetOf("n52 h20 m20 s90");
        dueChance(32, x, "ice(0, 0)", x.ice(0, 0), 1, 1);
        due(32, "nobody", x.asked(), 0);
        dueChance(32, x, "ice(0, 1)", x.ice(0, 1), 3, 1);
        due(32, "anybody", x.asked(), 0);
        dueChance(32, x, "ice(0, 8)", x.ice(0, 8), 3 + 4 + 5, 1);
        due(32, "those that are sure", x.asked(), 5);
        dueChance(32, x, "ice(0, 11)", x.ice(0, 11), 3, 1);
        due(32, "all are sure", x.asked(), 7);
        dueChance(32, x, "ice(0, 12)", x.ice(0, 12), 1, 1);
        dueChance(32, x, "ice(0, 13)", x.ice(0, 13), 0, 1);
        due(32, "no way", x.asked(), 0);
        dueChance(32, x, "ice(1, 6)", x.ice(1, 6), 1, 1);
        due(32, "ice(2, 0)", x.ice(2, 0), BAD);
        due(32, "ice(-1, 0)", x.ice(-1, 0), BAD);
        due(32, "ice(0, 46)", x.ice(0, 46), BAD);
        due(32, "ice(0, -1)", x.ice(0, -1), BAD);
        ColdShares five = streetOf("n9 h00 h00 h00 h00 h00");
        dueChance(32, five, "ice(0, 45)", five.ice(0, 45), 1, 1);
        due(32, "all of five", five.asked(), 31);
        dueChance(32, five, "ice(0, 22)", five.ice(0, 22), 6000, 1);
        due(32, "none of five", five.asked(), 0);
        ColdShares still = streetOf("n0 h00");
        dueChance(32, still, "COLD 0", still.ice(0, 0), 1, 1);
    }

    private static void odds() {
        ColdShares x = streetOf("n5392 h26 m28 h05 h00");
        dueChance(33, x, "odds(0)", x.odds(0), 999, 1000);
        dueChance(33, x, "a MISER", x.odds(1), 64, 125);
        dueChance(33, x, "tonight is enough", x.odds(2), 1, 1);
        dueChance(33, x, "OWES none", x.odds(3), 1, 1);
        x.bear(2, 1);
        dueChance(33, x, "it did BEAR", x.odds(2), (1000 - 20) / 20, 1000 / 20);
        due(33, "odds(4)", x.odds(4), BAD);
        due(33, "odds(-1)", x.odds(-1), BAD);
        x.night();
        x.night();
        x.night();
        dueChance(33, x, "the last NIGHT", x.odds(2), 0, 1);
        x.night();
        dueChance(33, x, "CANDLEMAS", x.odds(0), 0, 1);
        dueChance(33, x, "CANDLEMAS, OWES none", x.odds(3), 1, 1);
        ColdShares eight = streetOf("n99999999 h09 h09 h09 h09 h09");
        for (int h = 1; h < 5; h++) {
            eight.sell(h, 0, 9);
        }
        dueChance(33, eight, "seven NIGHTS behind this one", eight.odds(0), 18931, 62500);
        eight.sell(0, 1, 5);
        dueChance(33, eight, "in lowest terms", eight.odds(0), 1102473, 2000000);
        ColdShares last = streetOf("n4 h04 h05");
        dueChance(33, last, "one NIGHT", last.odds(0), 1, 1);
        dueChance(33, last, "one NIGHT, too much", last.odds(1), 0, 1);
    }

    private static void risk() {
        ColdShares x = streetOf("n5 h20 m10 m00 y00 c10");
        dueChance(34, x, "risk(0)", x.risk(0), 7, 10);
        dueChance(34, x, "a MISER 1 WARM", x.risk(1), 4, 5);
        dueChance(34, x, "a MISER 0 WARM", x.risk(2), 9, 10);
        dueChance(34, x, "a MAYOR", x.risk(3), 0, 1);
        dueChance(34, x, "CHILDREN", x.risk(4), 9, 10);
        due(34, "risk(5)", x.risk(5), BAD);
        due(34, "risk(-1)", x.risk(-1), BAD);
        ColdShares warm = streetOf("n5 h90 s70 s60 h50");
        dueChance(34, warm, "warm", warm.risk(0), 0, 1);
        dueChance(34, warm, "STOUT, 7 WARM", warm.risk(1), 0, 1);
        dueChance(34, warm, "STOUT, 6 WARM", warm.risk(2), 1, 10);
        dueChance(34, warm, "5 WARM", warm.risk(3), 2, 5);
    }

    private static void lots() {
        ColdShares x = streetOf("n99 h09 h29 m05");
        x.bear(1, 3);
        // 48271, 182605794, 1291394886, 1914720637 come from seed 1, by 8: 6033, 22825724, 161424360, 239340079.
        due(35, "lots(1, 1)", x.lots(1, 1), 3 * 3 + 4);
        dueTold(35, x, "6033 modulo 10", x.house(0, 2), 6);
        dueTold(35, x, "it did BEAR", x.house(1, 2), 6);
        dueTold(35, x, "22825724 modulo 3", x.house(2, 2), 3);
        due(35, "DEEDS", x.count(3), 4);
        due(35, "the NIGHT", x.count(2), 1);
        due(35, "till CANDLEMAS", x.lots(8, 1) >= 0 ? 1 : 0, 1);
        due(35, "CANDLEMAS", x.lots(1, 1), STATE);
        due(35, "n 0", x.lots(0, 1), BAD);
        due(35, "n 9", x.lots(9, 1), BAD);
        due(35, "seed 0", x.lots(1, 0), BAD);
        due(35, "seed -1", x.lots(1, -1), BAD);
        due(35, "seed MAX", x.lots(1, MAX), BAD);
        due(35, "no HOUSES", new ColdShares().lots(1, 1), STATE);
        ColdShares y = streetOf("n99999999 h09 h09");
        due(35, "the greatest seed", y.lots(1, MAX - 1) >= 0 ? 1 : 0, 1);
        y.undo(0);
        for (int i = 0; i < 13; i++) {
            y.sell(i % 2, 1 - i % 2, 1);
        }
        due(35, "61 DEEDS at most", y.lots(8, 1), FULL);
        due(35, "59 DEEDS at most", y.lots(7, 1) >= 0 ? 1 : 0, 1);
        ColdShares full = streetOf("n9 h09 h09");
        full.night();
        for (int i = 0; i < 59; i++) {
            full.sell(i % 2, 1 - i % 2, 1);
        }
        due(35, "STATE ahead of FULL", full.lots(1, 1), STATE);
        ColdShares just = streetOf("n9 h09 h09");
        for (int i = 0; i < 54; i++) {
            just.sell(i % 2, 1 - i % 2, 1);
        }
        due(35, "60 DEEDS at most", just.lots(1, 1) >= 0 ? 1 : 0, 1);
    }

    private static void asked() {
        ColdShares x = rowOf();
        due(36, "asked() before", x.asked(), 0);
        x = streetOf("n9 h38 s00");
        x.row(0, 1);
        dueTold(36, x, "lay()", x.lay(0, 0, 5), 0);
        dueTold(36, x, "at()", x.at(0, 0), 5);
        x.lay(0, 0, -3);
        dueTold(36, x, "mean()", x.mean(0), -3);
        dueTold(36, x, "house()", x.house(0, 1), 3);
        x.late();
        due(36, "late()", x.asked(), 25);
        x.sales();
        due(36, "sales()", x.asked(), 1);
        x.ice(0, 18);
        due(36, "ice()", x.asked(), 3);
        x.at(0, 9);
        x.house(9, 0);
        x.ice(0, 99);
        x.mean(5);
        x.part(0);
        x.odds(0);
        x.risk(0);
        x.share(0);
        x.least(0, 0);
        x.digest();
        due(36, "what else there is leaves it", x.asked(), 3);
    }

    private static void upperAndLower() {
        ColdShares x = new ColdShares();
        due(37, "upper() before", x.upper(), 0);
        due(38, "lower() before", x.lower(), 1);
        x = streetOf("n91 h55 h00");
        dueChance(37, x, "risk", x.risk(0), 2, 5);
        x.risk(9);
        x.ice(9, 9);
        x.odds(-1);
        x.part(7);
        due(37, "refused, upper() is as it was", x.upper(), 2);
        due(38, "refused, lower() is as it was", x.lower(), 5);
        dueChance(38, x, "ice()", x.ice(1, 1), 2, 1);
        x.bear(0, 1);
        dueChance(38, x, "odds()", x.odds(0), 3, 5);
    }

    private static void count() {
        ColdShares x = streetOf("n524 p36 c25 h11");
        x.text(3, 0);
        x.row(2, 0);
        x.bear(0, 4);
        x.bear(1, 3);
        x.night();
        x.keep(1);
        int[] want = {3, 3, 1, 3, 5, 10, 2, 1, 2, 1};
        for (int what = 0; what < 10; what++) {
            due(39, "count(" + what + ")", x.count(what), want[what]);
        }
        due(39, "count(10)", x.count(10), BAD);
        due(39, "count(-1)", x.count(-1), BAD);
        x.night();
        x.night();
        due(39, "count(2), CANDLEMAS", x.count(2), 3);
    }

    private static void finding() {
        ColdShares x = streetOf("n1 h11");
        due(40, "finding() before", x.finding(), 0);
        for (int f = 1; f <= 5; f++) {
            due(41, "findings(" + f + ") before", x.findings(f), 0);
        }
        x.tear(0);
        x.on(0);
        x.put(1, 0, 0);
        due(40, "NOTHING", x.finding(), 1);
        x.put(0, 99, 0);
        due(40, "BEYOND", x.finding(), 2);
        x.mark(0, 1);
        due(40, "UNLIKE", x.finding(), 3);
        x.row(0, 0);
        x.mean(0);
        due(40, "NOUGHT", x.finding(), 4);
        x.text(0, -1);
        x.row(0, -1);
        x.tear(9);
        x.bear(0, 9);
        due(40, "SIZE, and what is no FINDING leaves it", x.finding(), 5);
        int[] want = {3, 1, 1, 1, 2};
        for (int f = 1; f <= 5; f++) {
            due(41, "findings(" + f + ")", x.findings(f), want[f - 1]);
        }
        due(41, "findings(0)", x.findings(0), BAD);
        due(41, "findings(6)", x.findings(6), BAD);
        due(41, "findings(-1)", x.findings(-1), BAD);
        write(x, 0, "n1 h11");
        x.street(0);
        due(41, "a new STREET leaves them", x.findings(1), 3);
    }

    private static long digestOf(long... values) {
        long h = 17;
        for (long v : values) {
            h = 31 * h + v;
        }
        return h;
    }

    private static void digest() {
        ColdShares x = new ColdShares();
        due(42, "of a new object", x.digest(),
            digestOf(0, 0, 0, 0, 0, 0, 0, 0, 0, 0, -1, -1, -1, -1, -1, -1, -1, -1, -1, -1, -1, -1, -1));
        write(x, 1, "n5h26m18");
        x.street(1);
        x.bear(0, 3);
        x.keep(1);
        x.put(1, 0, 200);
        x.row(4, 2);
        x.lay(4, 1, -70000);
        due(42, "of a STREET", x.digest(), digestOf(2, 1, 0, 1, 11, 1, 0, 1, 1, 1, 5,
            0, 2, 3, 1, 3, 0, 3, 1, 8, 0, NONE, 2, -1, 1, -1, -1, -1, -1, -1, 2, 0, -70000, -1,
            -1, 8, -56, '5', 'h', '2', '6', 'm', '1', '8', -1, -1));
        due(42, "asked() is left by it", x.asked(), 0);
    }
}
