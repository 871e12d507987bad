/** Promises 10 to 15, and the block STREETS and KINDS: each sentence that names an edge. */
public final class EdgesOfStreetsTest {
    private static final int BAD = Edges.BAD, FINDING = Edges.FINDING, STATE = Edges.STATE, NONE = Edges.NONE;
    private static final int NOTHING = Edges.NOTHING, UNLIKE = Edges.UNLIKE;
    private static final int MIN = Edges.MIN, MAX = Edges.MAX;
    private static final int[] NO_TEXTS = {-1, 4, MIN, MAX};
    private static final String LETTERS = "hspmyc";

    private EdgesOfStreetsTest() {
    }

    public static void main(String[] args) {
        blanks();
        nights();
        houses();
        letters();
        figures();
        ends();
        faultNumbers();
        streetNumbers();
        streetAnew();
        streetRefusals();
        houseNumbers();
        houseKinds();
        houseTonight();
        coldNumbers();
        markNumbers();
        markUnlike();
        markValues();
        markEachHouse();
        windNumbers();
        windRefusals();
        Edges.end();
    }

    /** A FAULT is told, and no STREET comes of it; or there is none, and one comes of it. */
    private static void dueFault(String sentence, String signs, int want) {
        Edges.Made made = () -> {
            ColdShares x = Edges.lived();
            Edges.write(x, 3, signs);
            return x;
        };
        String told = "10 " + sentence + ": '" + signs + "'";
        if (want == NONE) {
            Edges.asks(told, made, x -> x.fault(3), NONE);
            Edges.due(told + ", street()", made.make().street(3) > 0 ? 1 : 0, 1);
        } else {
            Edges.asks(told, made, x -> x.fault(3), want);
            Edges.refused(told + ", street()", made, x -> x.street(3), STATE);
        }
    }

    private static void blanks() {
        dueFault("no blanks", "n1h11s22", NONE);
        dueFault("blanks ahead", "   n1h11", NONE);
        dueFault("blanks between", "n1   h11  s22", NONE);
        dueFault("blanks behind", "n1h11   ", NONE);
        dueFault("as many as wanted, ahead", " ".repeat(55) + "n1h11", NONE);
        dueFault("as many as wanted, between", "n1" + " ".repeat(55) + "h11", NONE);
        dueFault("as many as wanted, behind", "n1h11" + " ".repeat(55), NONE);
        dueFault("none within items: behind n", "n 1h11", 1);
        dueFault("none within items: between figures of NIGHTS", "n1 2h11", 3);
        dueFault("none within items: behind a letter", "n1h 11", 3);
        dueFault("none within items: between a HOUSE's figures", "n1h1 1", 4);
        for (int sign : new int[] {31, 33, 9, 10, 0, 255, 160}) {
            dueFault("a blank is 32: ahead", (char) sign + "n1h11", 0);
            dueFault("a blank is 32: between", "n1" + (char) sign + "h11", 2);
            dueFault("a blank is 32: behind", "n1h11" + (char) sign, 5);
        }
    }

    private static void nights() {
        for (char sign : new char[] {'m', 'o', 'N', 'h', '1'}) {
            dueFault("the first item is n", sign + "1h11", 0);
        }
        dueFault("the first item is n, behind blanks", "  h11n1", 2);
        dueFault("n comes once", "n1n1h11", 2);
        dueFault("n comes once, apart", "n1 n1 h11", 3);
        dueFault("n comes once, behind a HOUSE", "n1 h11 n1", 7);
        dueFault("1 figure at least", "nh11", 1);
        dueFault("1 figure", "n9h11", NONE);
        dueFault("8 figures", "n12345678h11", NONE);
        dueFault("a ninth NIGHT: its place", "n123456789h11", 9);
        dueFault("a ninth NIGHT, blanks ahead", "  n123456789h11", 11);
        dueFault("a ninth NIGHT, the last sign", "n123456789", 9);
        dueFault("a ninth NIGHT is told, not a tenth", "n1234567890123", 9);
        dueFault("a figure that stands apart", "n12345678 9h11", 10);
        for (int n = 1; n <= 8; n++) {
            Edges.due("10 as many NIGHTS as figures", Edges.streetOf("n" + "98765432".substring(0, n) + "h11").count(1), n);
        }
        ColdShares x = Edges.streetOf("n98760123h11");
        int[] cold = {9, 8, 7, 6, 0, 1, 2, 3};
        for (int night = 0; night < 8; night++) {
            Edges.due("10 the COLD of NIGHT " + night, x.cold(night), cold[night]);
        }
    }

    private static void houses() {
        dueFault("1 HOUSE", "n1 h11", NONE);
        dueFault("5 HOUSES", "n1 h11 h11 h11 h11 h11", NONE);
        dueFault("5 HOUSES without blanks", "n1h11h11h11h11h11", NONE);
        dueFault("a sixth HOUSE: its place", "n1 h11 h11 h11 h11 h11 h11", 23);
        dueFault("a sixth HOUSE without blanks: its place", "n1h11h11h11h11h11h11", 17);
        dueFault("a sixth HOUSE, its letter alone", "n1h11h11h11h11h11c", 17);
        dueFault("a sixth HOUSE is told, not a seventh", "n1h11h11h11h11h11h11h11", 17);
        dueFault("a figure behind the fifth HOUSE", "n1h11h11h11h11h111", 17);
        dueFault("as full as it can be", " ".repeat(36) + "n12345678h11s22p33m44c55", NONE);
        for (int n = 1; n <= 5; n++) {
            ColdShares x = new ColdShares();
            Edges.write(x, 0, "n1" + " h11".repeat(n));
            Edges.due("11 how many HOUSES", x.street(0), n);
            Edges.due("11 how many HOUSES, count(0)", x.count(0), n);
        }
    }

    private static void letters() {
        for (int kind = 0; kind < 6; kind++) {
            ColdShares x = Edges.streetOf("n1" + LETTERS.charAt(kind) + "00");
            Edges.told("10 the letter of KIND " + kind, x, x.house(0, 0), kind);
        }
        for (int sign = 0; sign < 256; sign++) {
            boolean one = LETTERS.indexOf(sign) >= 0;
            ColdShares x = new ColdShares();
            Edges.write(x, 0, "n1 ?11");
            x.put(0, 3, sign);
            Edges.due("10 a letter that is none such: " + sign, x.fault(0), one ? NONE : sign == ' ' ? 4 : 3);
        }
        dueFault("the second HOUSE's letter", "n1 h11 x11", 7);
        dueFault("a great letter", "n1 H11", 3);
    }

    private static void figures() {
        for (int sign = 0; sign < 256; sign++) {
            boolean one = sign >= '0' && sign <= '9';
            for (int place : new int[] {1, 3, 4}) {
                ColdShares x = new ColdShares();
                Edges.write(x, 0, "n5h67");
                x.put(0, place, sign);
                Edges.due("10 a figure that is none such: " + sign + " at " + place, x.fault(0), one ? NONE : place);
            }
        }
        for (int figure = 0; figure <= 9; figure++) {
            ColdShares x = Edges.streetOf("n" + figure + "h" + figure + (9 - figure));
            Edges.due("10 COLD by figure", x.cold(0), figure);
            Edges.told("10 WARM by figure", x, x.house(0, 1), figure);
            Edges.told("10 OWES by figure", x, x.house(0, 2), 9 - figure);
        }
        dueFault("one figure each", "n1h111", 5);
        dueFault("one figure each, apart", "n1h11 1", 6);
        ColdShares cut = new ColdShares();
        Edges.write(cut, 0, "n5h67");
        cut.put(0, 0, 256 + 'n');
        cut.put(0, 2, 'h' - 256);
        Edges.due("10 signs are bytes", cut.fault(0), NONE);
    }

    private static void ends() {
        dueFault("blanks alone: none of them", "", 0);
        dueFault("blanks alone: one", " ", 1);
        dueFault("blanks alone: 60", " ".repeat(60), 60);
        dueFault("its end comes too early: n", "n", 1);
        dueFault("its end comes too early: n, blanks ahead", "   n", 4);
        dueFault("its end comes too early: a letter", "n1 h", 4);
        dueFault("its end comes too early: a letter and a figure", "n1 h1", 5);
        dueFault("its end comes too early: the second HOUSE", "n1 h11s1", 8);
        dueFault("its end comes too early: the 60th place", " ".repeat(56) + "n1h1", 60);
        dueFault("there is no HOUSE", "n1", 2);
        dueFault("there is no HOUSE, eight NIGHTS", "n12345678", 9);
        dueFault("there is no HOUSE: behind blanks the size", "n1    ", 6);
        dueFault("there is no HOUSE: the size is 60", "n1" + " ".repeat(58), 60);
    }

    private static void faultNumbers() {
        for (int t : NO_TEXTS) {
            Edges.refused("10 BAD: TEXT " + t, Edges::lived, x -> x.fault(t), BAD);
        }
        Edges.finds("10 NOTHING", Edges::lived, x -> x.fault(3), NOTHING);
        Edges.asks("10 NONE: there is none", Edges::lived, x -> x.fault(0), NONE);
        Edges.asks("10 an empty TEXT: 0, not NONE", Edges::lived, x -> x.fault(1), 0);
        ColdShares x = Edges.lived();
        x.text(3, 1);
        Edges.due("10 the last TEXT", x.fault(3), 1);
    }

    private static void streetNumbers() {
        for (int t = 0; t < 4; t++) {
            ColdShares x = new ColdShares();
            Edges.write(x, t, "n1h11s22");
            Edges.due("11 by TEXT " + t, x.street(t), 2);
        }
    }

    private static void streetAnew() {
        ColdShares x = Edges.lived();
        Edges.write(x, 3, "n9 y07");
        Edges.due("11 anew", x.street(3), 1);
        int[] want = {1, 1, 0, 0, 7, 0, 0, 3, 4, 0};
        for (int what = 0; what < 10; what++) {
            Edges.due("11 anew, count(" + what + ")", x.count(what), want[what]);
        }
        Edges.due("11 NIGHTS that were are gone", x.cold(1), BAD);
        Edges.due("11 HOUSES that were are gone", x.house(1, 0), BAD);
        for (int k = 0; k < 3; k++) {
            Edges.due("11 kept STREETS go", x.on(k), FINDING);
            Edges.due("11 kept STREETS go, finding()", x.finding(), NOTHING);
        }
        Edges.due("11 what was told is left", x.upper(), 1);
        Edges.due("11 what was told is left", x.lower(), 10);
        Edges.told("11 ROWS are left", x, x.at(0, 0), 7);
        Edges.told("11 nothing was HURT", x, x.house(0, 3), 0);
        Edges.told("11 nothing was BORNE", x, x.house(0, 4), NONE);
        x.put(3, 5, '9');
        Edges.told("11 the TEXT may change behind it", x, x.house(0, 2), 7);
        ColdShares again = Edges.lived();
        Edges.due("11 the same TEXT again", again.street(0), 4);
        Edges.due("11 the same TEXT again: DEEDS", again.count(3), 0);
        Edges.due("11 the same TEXT again: OWED", again.count(4), 26);
        ColdShares blown = Edges.streetOf("n55 h11");
        blown.wind(0, 9);
        blown.street(0);
        Edges.due("11 anew: COLD, too", blown.cold(0), 5);
        ColdShares late = Edges.candlemasWithDeeds(60);
        Edges.due("11 from CANDLEMAS, full of DEEDS", late.street(0), 3);
        Edges.due("11 NIGHT 0 is at first", late.count(2), 0);
    }

    private static void streetRefusals() {
        for (int t : NO_TEXTS) {
            Edges.refused("11 BAD: TEXT " + t, Edges::lived, x -> x.street(t), BAD);
        }
        Edges.finds("11 NOTHING", Edges::lived, x -> x.street(3), NOTHING);
        Edges.finds("11 STATE behind NOTHING", ColdShares::new, x -> x.street(0), NOTHING);
        Edges.refused("11 STATE: an empty TEXT", Edges::lived, x -> x.street(1), STATE);
        Edges.refused("11 STATE: blanks alone", Edges::lived, x -> x.street(2), STATE);
    }

    private static void houseNumbers() {
        for (int h : new int[] {-1, 4, 5, 6, MIN, MAX}) {
            Edges.refused("12 BAD: HOUSE " + h + " of 4", Edges::lived, x -> x.house(h, 0), BAD);
        }
        for (int what : new int[] {-1, 6, MIN, MAX}) {
            Edges.refused("12 BAD: what " + what, Edges::lived, x -> x.house(0, what), BAD);
            Edges.refused("12 BAD: both", Edges::lived, x -> x.house(4, what), BAD);
        }
        Edges.refused("12 BAD: no HOUSES", ColdShares::new, x -> x.house(0, 0), BAD);
        ColdShares x = Edges.lived();
        int[] first = {0, 1, 2, 13, 4, 0};
        int[] last = {1, 6, 2, 0, NONE, 2};
        for (int what = 0; what < 6; what++) {
            Edges.told("12 the first HOUSE: " + what, x, x.house(0, what), first[what]);
            Edges.told("12 the last HOUSE: " + what, x, x.house(3, what), last[what]);
        }
        ColdShares five = Edges.streetOf("n1h11h11h11h11h19");
        Edges.told("12 the fifth HOUSE", five, five.house(4, 2), 9);
        Edges.due("12 BAD: a sixth", five.house(5, 2), BAD);
    }

    private static void houseKinds() {
        // No more than the NIGHT has COLD, a MISER (MAYOR, too) no more than 2.
        int[][] tops = {{0, 0, 0}, {1, 1, 1}, {2, 2, 2}, {3, 3, 2}, {9, 9, 2}};
        for (int[] of : tops) {
            for (int kind = 0; kind < 6; kind++) {
                ColdShares x = Edges.streetOf("n" + of[0] + LETTERS.charAt(kind) + "09");
                Edges.told("12 KIND " + kind + " at COLD " + of[0], x, x.house(0, 5), of[kind == 3 || kind == 4 ? 2 : 1]);
            }
        }
    }

    private static void houseTonight() {
        ColdShares x = Edges.streetOf("n52 h26 h04 h05 h00");
        Edges.told("12 no more than the NIGHT has COLD", x, x.house(0, 5), 5);
        Edges.told("12 no more than it OWES", x, x.house(1, 5), 4);
        Edges.told("12 as much as it OWES", x, x.house(2, 5), 5);
        Edges.told("12 it OWES nothing", x, x.house(3, 5), 0);
        Edges.told("12 NONE: nothing yet", x, x.house(0, 4), NONE);
        x.bear(0, 1);
        Edges.told("12 what it BORE tonight", x, x.house(0, 4), 1);
        Edges.told("12 0, if it did, though it OWES", x, x.house(0, 5), 0);
        x.sell(1, 3, 3);
        Edges.told("12 who SOLD", x, x.house(1, 5), 1);
        Edges.told("12 who bought", x, x.house(3, 5), 3);
        Edges.told("12 to sell is not to BEAR", x, x.house(1, 4), NONE);
        x.night();
        Edges.told("12 NONE: a new NIGHT", x, x.house(0, 4), NONE);
        Edges.told("12 again in a new NIGHT", x, x.house(0, 5), 2);
        x.bear(0, 2);
        x.night();
        Edges.told("12 0 at CANDLEMAS", x, x.house(0, 5), 0);
        Edges.told("12 NONE at CANDLEMAS", x, x.house(0, 4), NONE);
        Edges.told("12 it OWES at CANDLEMAS", x, x.house(0, 2), 3);
        Edges.told("12 what it was HURT till now", x, x.house(0, 3), 0);
        ColdShares much = Edges.streetOf("n9 h09 h09 h09 h09 h09");
        for (int h = 1; h < 5; h++) {
            much.sell(h, 0, 9);
        }
        Edges.told("12 it OWES all", much, much.house(0, 2), 45);
        Edges.told("12 it OWES all: the COLD is less", much, much.house(0, 5), 9);
    }

    private static void coldNumbers() {
        for (int night : new int[] {-1, 3, 4, 7, 8, MIN, MAX}) {
            Edges.refused("13 BAD: NIGHT " + night + " of 3", Edges::lived, x -> x.cold(night), BAD);
        }
        Edges.asks("13 the first NIGHT", Edges::lived, x -> x.cold(0), 4);
        Edges.asks("13 the last NIGHT", Edges::lived, x -> x.cold(2), 3);
        ColdShares eight = Edges.streetOf("n00000009 h11");
        Edges.due("13 NIGHT 7", eight.cold(7), 9);
        Edges.due("13 NIGHT 0, COLD 0", eight.cold(0), 0);
        Edges.due("13 BAD: NIGHT 8", eight.cold(8), BAD);
        Edges.asks("13 at CANDLEMAS, too", () -> Edges.candlemasWithDeeds(1), x -> x.cold(0), 5);
        Edges.refused("13 CANDLEMAS is no NIGHT", () -> Edges.candlemasWithDeeds(1), x -> x.cold(1), BAD);
    }

    private static ColdShares allKinds() {
        return Edges.streetOf("n9 s09 p09 m09 y09 c09");
    }

    private static void markNumbers() {
        for (int h : new int[] {-1, 5, 6, MIN, MAX}) {
            Edges.refused("14 BAD: HOUSE " + h, EdgesOfStreetsTest::allKinds, x -> x.mark(h, 1), BAD);
        }
        for (int h = 0; h < 5; h++) {
            int house = h;
            for (int kind : new int[] {-1, 0, 6, MIN, MAX}) {
                Edges.refused("14 BAD: HOUSE " + h + ", KIND " + kind, EdgesOfStreetsTest::allKinds,
                    x -> x.mark(house, kind), BAD);
            }
        }
        Edges.refused("14 BAD: also KIND 0, of a HOUSE, too", Edges::lived, x -> x.mark(0, 0), BAD);
        Edges.refused("14 BAD ahead of UNLIKE: HOUSE 4 of 4", Edges::lived, x -> x.mark(4, 1), BAD);
        Edges.refused("14 BAD: no HOUSES", ColdShares::new, x -> x.mark(0, 1), BAD);
    }

    private static void markUnlike() {
        // Of which KINDS one is: a MAYOR a MISER, too, CHILDREN POOR, too.
        String[] is = {"", "1", "2", "3", "34", "25"};
        for (int of = 0; of < 6; of++) {
            String signs = "n9" + LETTERS.charAt(of) + "09";
            for (int kind = 1; kind <= 5; kind++) {
                int asked = kind;
                String sentence = "14 one of KIND " + of + " as KIND " + kind;
                if (is[of].indexOf('0' + kind) >= 0) {
                    Edges.passes(sentence, () -> Edges.streetOf(signs), x -> x.mark(0, asked));
                } else {
                    Edges.finds(sentence + ": UNLIKE", () -> Edges.streetOf(signs), x -> x.mark(0, asked), UNLIKE);
                }
            }
        }
    }

    private static void dueMark(String sentence, String house, int kind, int want) {
        Edges.asks("14 " + sentence + ": " + house, () -> Edges.streetOf("n0 " + house), x -> x.mark(0, kind), want);
    }

    private static void markValues() {
        int[] stout = {2, 3, 4, 5, 6, 7, 8, 9, 9, 9};
        int[] poor = {81, 64, 49, 36, 25, 16, 9, 4, 1, 0};
        int[] asPoor = {81, 98, 79, 62, 47, 34, 23, 14, 7, 2};
        int[] children = {1, 1, 2, 3, 4, 5, 6, 7, 8, 9};
        int[] miser = {0, 1, 1, 2, 2, 3, 3, 4, 4, 5};
        for (int n = 0; n <= 9; n++) {
            dueMark("the most of 0 .. 9 that do not HURT", "s" + n + "9", 1, stout[n]);
            dueMark("how much more 9 degrees HURT", "p" + n + "0", 2, poor[n]);
            dueMark("how much more 9 degrees HURT CHILDREN", "c" + n + "0", 2, asPoor[n]);
            dueMark("the least degrees that HURT", "c" + n + "5", 5, children[n]);
            dueMark("in how many NIGHTS of COLD 9", "m0" + n, 3, miser[n]);
            dueMark("in how many NIGHTS, a MAYOR", "y9" + n, 3, miser[n]);
            dueMark("what all would HURT a HOUSE as WARM", "y4" + n, 4, n <= 4 ? 0 : (n - 4) * (n - 4));
        }
        ColdShares y = Edges.streetOf("n0 y09 h09 h09 h09 h09");
        for (int h = 1; h < 5; h++) {
            y.sell(h, 0, 9);
        }
        Edges.due("14 all OWED, a MAYOR", y.mark(0, 4), 45 * 45);
        Edges.due("14 all OWED, in how many NIGHTS", y.mark(0, 3), 23);
        ColdShares c = Edges.streetOf("n0 c39 s09 p09");
        c.sell(1, 0, 9);
        c.sell(2, 0, 9);
        Edges.due("14 CHILDREN, what they OWE aside", c.mark(0, 5), 3);
        Edges.due("14 CHILDREN as POOR, what they OWE aside", c.mark(0, 2), 2 * 49 - 36);
        Edges.due("14 a STOUT one that OWES none", c.mark(1, 1), 2);
    }

    private static void markEachHouse() {
        Edges.Made made = () -> Edges.streetOf("n9 h09 s18 p27 m36 c45");
        Edges.asks("14 HOUSE 1 of five", made, x -> x.mark(1, 1), 3);
        Edges.asks("14 HOUSE 2 of five", made, x -> x.mark(2, 2), 49);
        Edges.asks("14 HOUSE 3 of five", made, x -> x.mark(3, 3), 3);
        Edges.asks("14 the last of five, as POOR", made, x -> x.mark(4, 2), 2 * 36 - 25);
        Edges.asks("14 the last of five", made, x -> x.mark(4, 5), 4);
        Edges.finds("14 UNLIKE: the first of five", made, x -> x.mark(0, 5), UNLIKE);
        Edges.finds("14 UNLIKE: the last of five", made, x -> x.mark(4, 1), UNLIKE);
        Edges.Made mayors = () -> Edges.streetOf("n9 y09 m09 y23");
        Edges.asks("14 the last, a MAYOR", mayors, x -> x.mark(2, 4), 1);
        Edges.asks("14 the last, a MAYOR, as a MISER", mayors, x -> x.mark(2, 3), 2);
        Edges.finds("14 UNLIKE: a MISER is no MAYOR", mayors, x -> x.mark(1, 4), UNLIKE);
    }

    private static void windNumbers() {
        Edges.Made made = () -> Edges.streetOf("n507 h11");
        for (int night : new int[] {-1, 3, 7, 8, MIN, MAX}) {
            Edges.refused("15 BAD: NIGHT " + night + " of 3", made, x -> x.wind(night, 1), BAD);
        }
        for (int v : new int[] {-1, 10, MIN, MAX}) {
            Edges.refused("15 BAD: COLD " + v, made, x -> x.wind(0, v), BAD);
        }
        Edges.refused("15 BAD: no HOUSES", ColdShares::new, x -> x.wind(0, 1), BAD);
        ColdShares x = made.make();
        Edges.due("15 what it was: the first NIGHT", x.wind(0, 0), 5);
        Edges.due("15 COLD 0", x.cold(0), 0);
        Edges.due("15 what it was: COLD 0", x.wind(0, 9), 0);
        Edges.due("15 COLD 9", x.cold(0), 9);
        Edges.due("15 what it was: the last NIGHT", x.wind(2, 1), 7);
        Edges.due("15 the last NIGHT is", x.cold(2), 1);
        Edges.due("15 the one beside it is as it was", x.cold(1), 0);
        Edges.due("15 the first NIGHT is as it was", x.cold(0), 9);
        ColdShares eight = Edges.streetOf("n12345678 h11");
        Edges.due("15 NIGHT 7", eight.wind(7, 3), 8);
        Edges.due("15 NIGHT 7 is", eight.cold(7), 3);
    }

    private static void windRefusals() {
        Edges.refused("15 STATE: there are DEEDS", Edges::lived, x -> x.wind(0, 1), STATE);
        Edges.refused("15 STATE: of a NIGHT to come, too", Edges::lived, x -> x.wind(2, 1), STATE);
        Edges.refused("15 STATE: one DEED, a sale", () -> Edges.withDeeds(1), x -> x.wind(0, 1), STATE);
        Edges.refused("15 STATE: one DEED, a NIGHT", () -> Edges.candlemasWithDeeds(1), x -> x.wind(0, 1), STATE);
        Edges.refused("15 BAD ahead of STATE: NIGHT", Edges::lived, x -> x.wind(3, 1), BAD);
        Edges.refused("15 BAD ahead of STATE: COLD", Edges::lived, x -> x.wind(0, 10), BAD);
        ColdShares x = Edges.withDeeds(2);
        x.undo(0);
        Edges.due("15 DEEDS undone are none", x.wind(0, 1), 5);
    }
}
