/** Promises 1 to 9, and the block ROWS and TEXTS: each sentence that names an edge. */
public final class EdgesOfRowsTest {
    private static final int BAD = Edges.BAD, FINDING = Edges.FINDING;
    private static final int NOTHING = Edges.NOTHING, BEYOND = Edges.BEYOND, NOUGHT = Edges.NOUGHT, SIZE = Edges.SIZE;
    private static final int MIN = Edges.MIN, MAX = Edges.MAX;
    private static final int[] NO_ROWS = {-1, 6, MIN, MAX};
    private static final int[] NO_TEXTS = {-1, 4, MIN, MAX};

    private EdgesOfRowsTest() {
    }

    public static void main(String[] args) {
        newObject();
        rowNumbers();
        rowSizes();
        rowAnew();
        layEdges();
        layRefusals();
        atEdges();
        atRefusals();
        tearEdges();
        copyPlaces();
        copyRefusals();
        copyOrder();
        meanEdges();
        textNumbers();
        textSizes();
        putPlaces();
        putBytes();
        putRefusals();
        Edges.end();
    }

    private static void newObject() {
        ColdShares x = new ColdShares();
        Edges.due("1 asked() before", x.asked(), 0);
        Edges.due("1 upper() before", x.upper(), 0);
        Edges.due("1 lower() before", x.lower(), 1);
        Edges.due("1 finding() before", x.finding(), 0);
        for (int f = 1; f <= 5; f++) {
            Edges.due("1 findings(" + f + ") before", x.findings(f), 0);
        }
        for (int what = 0; what < 10; what++) {
            Edges.due("1 count(" + what + ") of a new object", x.count(what), 0);
        }
        for (int r = 0; r < 6; r++) {
            int row = r;
            Edges.finds("1 no ROWS: " + r, ColdShares::new, y -> y.tear(row), NOTHING);
        }
        for (int t = 0; t < 4; t++) {
            int text = t;
            Edges.finds("1 no TEXTS: " + t, ColdShares::new, y -> y.fault(text), NOTHING);
        }
        for (int k = 0; k < 3; k++) {
            int kept = k;
            Edges.finds("1 no kept STREETS: " + k, ColdShares::new, y -> y.on(kept), NOTHING);
        }
        Edges.refused("1 no HOUSES", ColdShares::new, y -> y.house(0, 0), BAD);
        Edges.refused("1 no NIGHTS", ColdShares::new, y -> y.cold(0), BAD);
    }

    private static void rowNumbers() {
        for (int r = 0; r < 6; r++) {
            ColdShares x = new ColdShares();
            Edges.due("2 ROW " + r, x.row(r, 2), 2);
            Edges.due("2 one ROW is there", x.count(7), 1);
            for (int other = 0; other < 6; other++) {
                Edges.due("2 just that one", x.at(other, 1), other == r ? 1 : FINDING);
            }
        }
        for (int r : NO_ROWS) {
            Edges.refused("2 BAD: ROW " + r, Edges::lived, x -> x.row(r, 2), BAD);
            Edges.refused("2 BAD ahead of SIZE: ROW " + r, Edges::lived, x -> x.row(r, -1), BAD);
            Edges.refused("2 BAD twice: ROW " + r, Edges::lived, x -> x.row(r, 41), BAD);
        }
    }

    private static void rowSizes() {
        Edges.taken("2 n ints: none", Edges::lived, x -> x.row(3, 0), 0);
        Edges.taken("2 n ints: one", Edges::lived, x -> x.row(3, 1), 1);
        Edges.taken("2 n ints: 40", Edges::lived, x -> x.row(3, 40), 40);
        for (int n : new int[] {41, 42, MAX}) {
            Edges.refused("2 BAD: also n above 40: " + n, Edges::lived, x -> x.row(0, n), BAD);
            Edges.refused("2 BAD: also n above 40, of a missing one: " + n, Edges::lived, x -> x.row(3, n), BAD);
        }
        for (int n : new int[] {-1, -40, MIN}) {
            Edges.finds("2 SIZE: below 0: " + n, Edges::lived, x -> x.row(0, n), SIZE);
            Edges.finds("2 SIZE: below 0, of a missing one: " + n, Edges::lived, x -> x.row(3, n), SIZE);
        }
        ColdShares all = new ColdShares();
        for (int r = 0; r < 6; r++) {
            all.row(r, 40);
        }
        Edges.due("2 all ROWS are there, and full", all.count(7), 6);
        Edges.told("2 the last place of the last", all, all.at(5, 39), 0);
    }

    private static void rowAnew() {
        ColdShares x = Edges.rowOf(1, 2, 3);
        Edges.due("2 anew, fewer", x.row(0, 1), 1);
        Edges.places("2 n ints 0", x, 0, 0);
        Edges.due("2 anew, more", x.row(0, 4), 4);
        Edges.places("2 n ints 0, behind the old end, too", x, 0, 0, 0, 0, 0);
        x.lay(0, 3, 5);
        Edges.due("2 anew, as many", x.row(0, 4), 4);
        Edges.places("2 n ints 0, again", x, 0, 0, 0, 0, 0);
        Edges.due("2 it is one ROW still", x.count(7), 1);
        x.row(0, 0);
        Edges.due("2 an empty ROW is there", x.count(7), 1);
        Edges.places("2 no ints", x, 0);
    }

    private static void layEdges() {
        ColdShares x = new ColdShares();
        x.row(0, 40);
        Edges.told("3 the first place", x, x.lay(0, 0, MIN), 0);
        Edges.told("3 the last place", x, x.lay(0, 39, MAX), 0);
        Edges.told("3 what it was: MIN", x, x.lay(0, 0, 1), MIN);
        Edges.told("3 what it was: MAX", x, x.lay(0, 39, -1), MAX);
        Edges.told("3 place i is v", x, x.at(0, 39), -1);
        Edges.told("3 the one beside it is as it was", x, x.at(0, 38), 0);
        x.row(5, 1);
        Edges.told("3 the last ROW", x, x.lay(5, 0, 6), 0);
        Edges.told("3 the last ROW is", x, x.at(5, 0), 6);
        Edges.told("3 the first ROW is as it was", x, x.at(0, 0), 1);
    }

    private static void layRefusals() {
        for (int r : NO_ROWS) {
            Edges.refused("3 BAD: ROW " + r, Edges::lived, x -> x.lay(r, 0, 5), BAD);
            Edges.refused("3 BAD ahead of BEYOND: ROW " + r, Edges::lived, x -> x.lay(r, -1, 5), BAD);
        }
        Edges.finds("3 NOTHING", Edges::lived, x -> x.lay(3, 0, 5), NOTHING);
        Edges.finds("3 NOTHING: the last", Edges::lived, x -> x.lay(5, 0, 5), NOTHING);
        Edges.finds("3 NOTHING ahead of BEYOND, below", Edges::lived, x -> x.lay(3, -1, 5), NOTHING);
        Edges.finds("3 NOTHING ahead of BEYOND, above", Edges::lived, x -> x.lay(3, 40, 5), NOTHING);
        for (int i : new int[] {-1, 3, 4, 39, 40, MIN, MAX}) {
            Edges.finds("3 BEYOND: place " + i + " of 3", Edges::lived, x -> x.lay(0, i, 5), BEYOND);
        }
        for (int i : new int[] {-1, 40, MIN, MAX}) {
            Edges.finds("3 BEYOND: place " + i + " of 40", Edges::lived, x -> x.lay(2, i, 5), BEYOND);
        }
        for (int i : new int[] {-1, 0, 1}) {
            Edges.finds("3 BEYOND: place " + i + " of none", Edges::lived, x -> x.lay(1, i, 5), BEYOND);
        }
    }

    private static void atEdges() {
        ColdShares x = Edges.lived();
        Edges.told("4 the first place", x, x.at(0, 0), 7);
        Edges.told("4 the last place", x, x.at(0, 2), 9);
        Edges.told("4 the last place of 40", x, x.at(2, 39), 40);
        Edges.told("4 the one ahead of it", x, x.at(2, 38), 0);
    }

    private static void atRefusals() {
        for (int r : NO_ROWS) {
            Edges.refused("4 BAD: ROW " + r, Edges::lived, x -> x.at(r, 0), BAD);
            Edges.refused("4 BAD ahead of BEYOND: ROW " + r, Edges::lived, x -> x.at(r, 40), BAD);
        }
        Edges.finds("4 NOTHING", Edges::lived, x -> x.at(3, 0), NOTHING);
        Edges.finds("4 NOTHING ahead of BEYOND, below", Edges::lived, x -> x.at(3, -1), NOTHING);
        Edges.finds("4 NOTHING ahead of BEYOND, above", Edges::lived, x -> x.at(5, MAX), NOTHING);
        for (int i : new int[] {-1, 3, 39, 40, MIN, MAX}) {
            Edges.finds("4 BEYOND: place " + i + " of 3", Edges::lived, x -> x.at(0, i), BEYOND);
        }
        Edges.finds("4 BEYOND: place 40 of 40", Edges::lived, x -> x.at(2, 40), BEYOND);
        Edges.finds("4 BEYOND: place 0 of none", Edges::lived, x -> x.at(1, 0), BEYOND);
        Edges.finds("4 BEYOND: place -1 of none", Edges::lived, x -> x.at(1, -1), BEYOND);
    }

    private static void tearEdges() {
        for (int r : NO_ROWS) {
            Edges.refused("5 BAD: ROW " + r, Edges::lived, x -> x.tear(r), BAD);
        }
        Edges.finds("5 NOTHING", Edges::lived, x -> x.tear(3), NOTHING);
        Edges.finds("5 NOTHING: the last", Edges::lived, x -> x.tear(5), NOTHING);
        for (int r = 0; r < 3; r++) {
            ColdShares x = Edges.lived();
            Edges.due("5 one with places, an empty one, a full one", x.tear(r), 1);
            Edges.due("5 it is missing", x.count(7), 2);
            Edges.due("5 it is missing, at()", x.at(r, 0), FINDING);
            Edges.due("5 it is missing, finding()", x.finding(), NOTHING);
            Edges.due("5 torn twice", x.tear(r), FINDING);
            Edges.due("5 torn twice, finding()", x.finding(), NOTHING);
            Edges.due("5 torn, and there again", x.row(r, 2), 2);
            Edges.places("5 torn, and there again: ints 0", x, r, 0, 0);
        }
        ColdShares last = new ColdShares();
        last.row(5, 1);
        Edges.due("5 the last ROW", last.tear(5), 1);
        Edges.due("5 none is there", last.count(7), 0);
    }

    private static ColdShares fiveAndThree() {
        ColdShares x = Edges.rowOf(1, 2, 3, 4, 5);
        x.row(5, 3);
        x.lay(5, 0, 6);
        x.lay(5, 1, 7);
        x.lay(5, 2, 8);
        return x;
    }

    private static void dueCopy(String sentence, int i, int j, int n, int... want) {
        ColdShares x = fiveAndThree();
        Edges.due(sentence, x.copy(0, i, 0, j, n), 1);
        Edges.places(sentence, x, 0, want);
    }

    private static void copyPlaces() {
        dueCopy("6 as if taken ahead, up by one", 0, 1, 4, 1, 1, 2, 3, 4);
        dueCopy("6 as if taken ahead, down by one", 1, 0, 4, 2, 3, 4, 5, 5);
        dueCopy("6 as if taken ahead, up by two", 0, 2, 3, 1, 2, 1, 2, 3);
        dueCopy("6 onto itself", 0, 0, 5, 1, 2, 3, 4, 5);
        dueCopy("6 one place, the first to the last", 0, 4, 1, 1, 2, 3, 4, 1);
        dueCopy("6 one place, the last to the first", 4, 0, 1, 5, 2, 3, 4, 5);
        dueCopy("6 no places", 0, 3, 0, 1, 2, 3, 4, 5);
        dueCopy("6 no places, from its end on", 5, 5, 0, 1, 2, 3, 4, 5);
        ColdShares x = fiveAndThree();
        Edges.due("6 all places of another one", x.copy(0, 2, 5, 0, 3), 1);
        Edges.places("6 all places of another one", x, 5, 3, 4, 5);
        Edges.places("6 where it is from it is as it was", x, 0, 1, 2, 3, 4, 5);
        ColdShares y = fiveAndThree();
        Edges.due("6 the last places", y.copy(5, 1, 0, 3, 2), 1);
        Edges.places("6 the last places", y, 0, 1, 2, 3, 7, 8);
        ColdShares full = Edges.lived();
        full.row(5, 40);
        Edges.due("6 all of 40", full.copy(2, 0, 5, 0, 40), 1);
        Edges.told("6 all of 40: the last", full, full.at(5, 39), 40);
        Edges.due("6 none to an empty one", full.copy(0, 0, 1, 0, 0), 1);
        Edges.due("6 none of an empty one", full.copy(1, 0, 1, 0, 0), 1);
    }

    private static void copyRefusals() {
        for (int r : NO_ROWS) {
            Edges.refused("6 BAD: from ROW " + r, Edges::lived, x -> x.copy(r, 0, 0, 0, 1), BAD);
            Edges.refused("6 BAD: to ROW " + r, Edges::lived, x -> x.copy(0, 0, r, 0, 1), BAD);
            Edges.refused("6 BAD: both " + r, Edges::lived, x -> x.copy(r, 0, r, 0, 1), BAD);
        }
        for (int n : new int[] {-1, -2, MIN}) {
            Edges.finds("6 SIZE: n below 0: " + n, Edges::lived, x -> x.copy(0, 0, 2, 0, n), SIZE);
        }
        Edges.finds("6 NOTHING: from", Edges::lived, x -> x.copy(3, 0, 0, 0, 1), NOTHING);
        Edges.finds("6 NOTHING: to", Edges::lived, x -> x.copy(0, 0, 3, 0, 1), NOTHING);
        Edges.finds("6 NOTHING: both, found once", Edges::lived, x -> x.copy(3, 0, 4, 0, 1), NOTHING);
        Edges.finds("6 NOTHING: itself", Edges::lived, x -> x.copy(5, 0, 5, 0, 0), NOTHING);
        int[][] beyond = {{3, 0, 1}, {2, 0, 2}, {1, 0, 3}, {0, 0, 4}, {0, 0, 41}, {4, 0, 0}, {-1, 0, 1}, {-1, 0, 0}, {-1, 0, 2},
            {MAX, 0, 1}, {MAX, 0, MAX}, {MIN, 0, 1}, {MIN, 0, MAX}, {0, 0, MAX}, {1, 0, MAX}, {3, 0, MAX}};
        for (int[] of : beyond) {
            String told = ": " + of[0] + ", " + of[2];
            Edges.finds("6 BEYOND: not so many there, from" + told, Edges::lived,
                x -> x.copy(0, of[0], 2, of[1], of[2]), BEYOND);
            Edges.finds("6 BEYOND: not so many there, to" + told, Edges::lived,
                x -> x.copy(2, of[1], 0, of[0], of[2]), BEYOND);
            Edges.finds("6 BEYOND: not so many there, both" + told, Edges::lived,
                x -> x.copy(0, of[0], 0, of[0], of[2]), BEYOND);
        }
        Edges.finds("6 BEYOND: one of an empty one", Edges::lived, x -> x.copy(1, 0, 0, 0, 1), BEYOND);
        Edges.finds("6 BEYOND: one to an empty one", Edges::lived, x -> x.copy(0, 0, 1, 0, 1), BEYOND);
        Edges.finds("6 BEYOND: 41 of 40", Edges::lived, x -> x.copy(2, 0, 2, 0, 41), BEYOND);
        Edges.finds("6 BEYOND: the 41st of 40", Edges::lived, x -> x.copy(2, 40, 0, 0, 1), BEYOND);
    }

    private static void copyOrder() {
        Edges.refused("6 BAD ahead of SIZE, from", Edges::lived, x -> x.copy(6, 0, 0, 0, -1), BAD);
        Edges.refused("6 BAD ahead of SIZE, to", Edges::lived, x -> x.copy(0, 0, -1, 0, -1), BAD);
        Edges.refused("6 BAD ahead of NOTHING, to", Edges::lived, x -> x.copy(3, 0, 6, 0, 1), BAD);
        Edges.refused("6 BAD ahead of NOTHING, from", Edges::lived, x -> x.copy(-1, 0, 3, 0, 1), BAD);
        Edges.refused("6 BAD ahead of BEYOND", Edges::lived, x -> x.copy(0, 9, 6, 0, 1), BAD);
        Edges.finds("6 SIZE ahead of NOTHING, from", Edges::lived, x -> x.copy(3, 0, 0, 0, -1), SIZE);
        Edges.finds("6 SIZE ahead of NOTHING, to", Edges::lived, x -> x.copy(0, 0, 3, 0, -1), SIZE);
        Edges.finds("6 SIZE ahead of BEYOND", Edges::lived, x -> x.copy(0, 9, 0, 0, -1), SIZE);
        Edges.finds("6 NOTHING ahead of BEYOND, from", Edges::lived, x -> x.copy(3, -1, 0, 0, 1), NOTHING);
        Edges.finds("6 NOTHING ahead of BEYOND, to", Edges::lived, x -> x.copy(0, 3, 3, 0, 1), NOTHING);
    }

    private static void dueMean(String sentence, int want, int... values) {
        ColdShares x = Edges.rowOf(values);
        Edges.told(sentence, x, x.mean(0), want);
    }

    private static void meanEdges() {
        dueMean("7 of one", 5, 5);
        dueMean("7 cut: 3 by 2", 1, 1, 2);
        dueMean("7 cut: 5 by 3", 1, 1, 2, 2);
        dueMean("7 cut: -3 by 2", -1, -1, -2);
        dueMean("7 cut: -1 by 2", 0, -1, 0);
        dueMean("7 beyond int above", MAX, MAX, MAX);
        dueMean("7 beyond int below", MIN, MIN, MIN);
        dueMean("7 the greatest and the least", 0, MIN, MAX);
        int[] forty = new int[40];
        java.util.Arrays.fill(forty, MIN);
        dueMean("7 of 40", MIN, forty);
        forty[39] = MAX;
        dueMean("7 of 40, the last one counts", (int) ((39L * MIN + MAX) / 40), forty);
        Edges.finds("7 NOUGHT: an empty one", Edges::lived, x -> x.mean(1), NOUGHT);
        Edges.finds("7 NOTHING: a missing one", Edges::lived, x -> x.mean(3), NOTHING);
        for (int r : NO_ROWS) {
            Edges.refused("7 BAD: ROW " + r, Edges::lived, x -> x.mean(r), BAD);
        }
        ColdShares shorter = Edges.rowOf(9, 9, 9);
        shorter.row(0, 1);
        shorter.lay(0, 0, 4);
        Edges.told("7 of a ROW that was longer", shorter, shorter.mean(0), 4);
        ColdShares last = Edges.lived();
        last.row(5, 2);
        last.lay(5, 1, 8);
        Edges.told("7 the last ROW", last, last.mean(5), 4);
    }

    private static void textNumbers() {
        for (int t = 0; t < 4; t++) {
            ColdShares x = new ColdShares();
            Edges.due("8 TEXT " + t, x.text(t, 2), 2);
            Edges.due("8 one TEXT is there", x.count(8), 1);
            for (int other = 0; other < 4; other++) {
                Edges.due("8 just that one", x.fault(other), other == t ? 2 : FINDING);
            }
        }
        for (int t : NO_TEXTS) {
            Edges.refused("8 BAD: TEXT " + t, Edges::lived, x -> x.text(t, 2), BAD);
            Edges.refused("8 BAD ahead of SIZE: TEXT " + t, Edges::lived, x -> x.text(t, -1), BAD);
            Edges.refused("8 BAD twice: TEXT " + t, Edges::lived, x -> x.text(t, 61), BAD);
        }
    }

    private static void textSizes() {
        Edges.taken("8 n blanks: none", Edges::lived, x -> x.text(3, 0), 0);
        Edges.taken("8 n blanks: one", Edges::lived, x -> x.text(3, 1), 1);
        Edges.taken("8 n blanks: 60", Edges::lived, x -> x.text(3, 60), 60);
        for (int n : new int[] {61, 62, MAX}) {
            Edges.refused("8 BAD: also n above 60: " + n, Edges::lived, x -> x.text(0, n), BAD);
            Edges.refused("8 BAD: also n above 60, of a missing one: " + n, Edges::lived, x -> x.text(3, n), BAD);
        }
        for (int n : new int[] {-1, -60, MIN}) {
            Edges.finds("8 SIZE: below 0: " + n, Edges::lived, x -> x.text(0, n), SIZE);
            Edges.finds("8 SIZE: below 0, of a missing one: " + n, Edges::lived, x -> x.text(3, n), SIZE);
        }
        ColdShares x = new ColdShares();
        x.text(2, 3);
        x.put(2, 0, 7);
        x.put(2, 2, 8);
        x.text(2, 1);
        Edges.due("8 anew, fewer: blanks", x.put(2, 0, 9), 1032);
        x.text(2, 3);
        Edges.due("8 anew, more: blanks", x.put(2, 0, 9), 1032);
        Edges.due("8 anew, more: blanks behind the old end", x.put(2, 2, 9), 1032);
        ColdShares all = new ColdShares();
        for (int t = 0; t < 4; t++) {
            all.text(t, 60);
        }
        Edges.due("8 all TEXTS are there, and full", all.count(8), 4);
        Edges.due("8 blanks alone: the size", all.fault(3), 60);
        all.text(3, 0);
        Edges.due("8 an empty TEXT is there", all.count(8), 4);
    }

    private static void putPlaces() {
        ColdShares x = Edges.lived();
        Edges.due("9 the first byte", x.put(2, 0, 1), 1032);
        Edges.due("9 the last byte", x.put(2, 59, 2), 1032);
        Edges.due("9 what it was: the first", x.put(2, 0, 3), 1001);
        Edges.due("9 what it was: the last", x.put(2, 59, 4), 1002);
        Edges.due("9 the one beside it is as it was", x.put(2, 58, 5), 1032);
        Edges.due("9 asked() is left", x.asked(), -8);
        x.text(3, 1);
        Edges.due("9 the last TEXT", x.put(3, 0, 6), 1032);
    }

    private static void putBytes() {
        int[][] cut = {{0, 0}, {127, 127}, {128, -128}, {129, -127}, {255, -1}, {256, 0}, {257, 1}, {383, 127}, {384, -128},
            {-1, -1}, {-128, -128}, {-129, 127}, {-256, 0}, {-257, -1}, {MAX, -1}, {MIN, 0}, {MIN + 128, -128}};
        for (int[] of : cut) {
            ColdShares x = new ColdShares();
            x.text(0, 1);
            x.put(0, 0, of[0]);
            Edges.due("9 cut to a byte: " + of[0], x.put(0, 0, 0), 1000 + of[1]);
        }
    }

    private static void putRefusals() {
        for (int t : NO_TEXTS) {
            Edges.refused("9 BAD: TEXT " + t, Edges::lived, x -> x.put(t, 0, 1), BAD);
            Edges.refused("9 BAD ahead of BEYOND: TEXT " + t, Edges::lived, x -> x.put(t, -1, 1), BAD);
        }
        Edges.finds("9 NOTHING", Edges::lived, x -> x.put(3, 0, 1), NOTHING);
        Edges.finds("9 NOTHING ahead of BEYOND, below", Edges::lived, x -> x.put(3, -1, 1), NOTHING);
        Edges.finds("9 NOTHING ahead of BEYOND, above", Edges::lived, x -> x.put(3, 60, 1), NOTHING);
        for (int i : new int[] {-1, 60, MIN, MAX}) {
            Edges.finds("9 BEYOND: byte " + i + " of 60", Edges::lived, x -> x.put(2, i, 1), BEYOND);
        }
        for (int i : new int[] {-1, 0, 1}) {
            Edges.finds("9 BEYOND: byte " + i + " of none", Edges::lived, x -> x.put(1, i, 1), BEYOND);
        }
        Edges.finds("9 BEYOND: behind the STREET's", Edges::lived, x -> x.put(0, 20, 1), BEYOND);
        Edges.taken("9 the last of the STREET's", Edges::lived, x -> x.put(0, 19, 1), 1000 + '0');
    }
}
