/** Promises 16 to 21, and the block NIGHTS and DEEDS: each sentence that names an edge. */
public final class EdgesOfDeedsTest {
    private static final int BAD = Edges.BAD, FULL = Edges.FULL, FINDING = Edges.FINDING, STATE = Edges.STATE, NONE = Edges.NONE;
    private static final int NOTHING = Edges.NOTHING;
    private static final int MIN = Edges.MIN, MAX = Edges.MAX;
    private static final String LETTERS = "hspmyc";

    private EdgesOfDeedsTest() {
    }

    public static void main(String[] args) {
        bearNumbers();
        bearTops();
        bearHurts();
        bearOnce();
        bearFull();
        sellNumbers();
        sellTops();
        sellFull();
        nightEdges();
        nightFull();
        undoNumbers();
        undoEachDeed();
        keepEdges();
        onEdges();
        onAsItWasKept();
        onWithTheDeedsKept();
        onUndoneToTheFirst();
        Edges.end();
    }

    private static void bearNumbers() {
        for (int h : new int[] {-1, 4, 5, MIN, MAX}) {
            Edges.refused("16 BAD: HOUSE " + h + " of 4", Edges::lived, x -> x.bear(h, 1), BAD);
        }
        for (int d : new int[] {0, -1, MIN}) {
            Edges.refused("16 BAD: d (1 ..): " + d, Edges::lived, x -> x.bear(2, d), BAD);
            Edges.refused("16 BAD ahead of STATE, it did: " + d, Edges::lived, x -> x.bear(0, d), BAD);
        }
        Edges.refused("16 BAD: no HOUSES", ColdShares::new, x -> x.bear(0, 1), BAD);
        Edges.refused("16 BAD ahead of STATE, CANDLEMAS", () -> Edges.candlemasWithDeeds(1), x -> x.bear(3, 1), BAD);
        Edges.refused("16 BAD ahead of STATE, more than it can", Edges::lived, x -> x.bear(4, 99), BAD);
        Edges.refused("16 BAD ahead of FULL, HOUSE", () -> Edges.withDeeds(60), x -> x.bear(3, 1), BAD);
        Edges.refused("16 BAD ahead of FULL, degrees", () -> Edges.withDeeds(60), x -> x.bear(0, 0), BAD);
    }

    private static void dueTop(String sentence, String signs, int top) {
        for (int d = 1; d <= top; d++) {
            int degrees = d;
            Edges.passes("16 " + sentence + ": " + d, () -> Edges.streetOf(signs), x -> x.bear(0, degrees));
        }
        for (int d : new int[] {top + 1, top + 2, 10, 100, MAX}) {
            Edges.refused("16 STATE: more than it can, " + sentence + ": " + d, () -> Edges.streetOf(signs),
                x -> x.bear(0, d), STATE);
        }
    }

    private static void bearTops() {
        for (int kind = 0; kind < 6; kind++) {
            char letter = LETTERS.charAt(kind);
            boolean miser = kind == 3 || kind == 4;
            for (int cold : new int[] {0, 1, 2, 3, 8, 9}) {
                dueTop("no more than the NIGHT has COLD", "n" + cold + letter + "09", miser ? Math.min(cold, 2) : cold);
            }
            for (int owes : new int[] {0, 1, 2, 3, 8}) {
                dueTop("no more than it OWES", "n9" + letter + "0" + owes, miser ? Math.min(owes, 2) : owes);
            }
        }
        ColdShares all = Edges.streetOf("n9 h09 h09");
        Edges.due("16 it OWES more than a NIGHT has COLD", all.sell(1, 0, 9), 18);
        Edges.due("16 STATE: 10 in a NIGHT of 9", all.bear(0, 10), STATE);
        Edges.due("16 9 in a NIGHT of 9", all.bear(0, 9), 81);
        Edges.told("16 what it OWES then", all, all.house(0, 2), 9);
    }

    private static void dueHurt(String house, int d, int want) {
        ColdShares x = Edges.streetOf("n9 " + house);
        String sentence = "16 what " + d + " HURT " + house;
        Edges.due(sentence, x.bear(0, d), want);
        Edges.told(sentence + ", till now", x, x.house(0, 3), want);
        Edges.told(sentence + ", OWES", x, x.house(0, 2), 9 - d);
        Edges.told(sentence + ", BORE", x, x.house(0, 4), d);
        Edges.due(sentence + ", DEEDS", x.count(3), 1);
    }

    private static void bearHurts() {
        dueHurt("h39", 3, 0);
        dueHurt("h39", 4, 1);
        dueHurt("h39", 5, 4);
        dueHurt("h09", 1, 1);
        dueHurt("h09", 9, 81);
        dueHurt("h99", 9, 0);
        dueHurt("s39", 5, 0);
        dueHurt("s39", 6, 1);
        dueHurt("s79", 9, 0);
        dueHurt("s69", 9, 1);
        dueHurt("p39", 3, 0);
        dueHurt("p39", 4, 2);
        dueHurt("p09", 9, 162);
        dueHurt("m19", 1, 0);
        dueHurt("m19", 2, 1);
        dueHurt("y09", 2, 0);
        dueHurt("c39", 2, 0);
        dueHurt("c39", 3, 2);
        dueHurt("c19", 1, 2);
        dueHurt("c09", 1, 2);
        dueHurt("c09", 9, 162);
        dueHurt("c19", 9, 162);
        dueHurt("c99", 9, 2);
    }

    private static void bearOnce() {
        Edges.refused("16 STATE: it did", Edges::lived, x -> x.bear(0, 1), STATE);
        ColdShares x = Edges.lived();
        Edges.due("16 another one may", x.bear(1, 1), 1);
        Edges.due("16 that one did, too", x.bear(1, 1), STATE);
        x.night();
        Edges.due("16 once in each NIGHT", x.bear(0, 1), 0);
        Edges.told("16 NONE: nothing yet, each HOUSE", x, x.house(1, 4), NONE);
        Edges.due("16 once in each NIGHT, each HOUSE", x.bear(1, 2), 4);
        Edges.refused("16 STATE: it is CANDLEMAS", () -> Edges.candlemasWithDeeds(1), y -> y.bear(0, 1), STATE);
        ColdShares all = Edges.streetOf("n99 h03");
        Edges.due("16 all that it OWES", all.bear(0, 3), 9);
        Edges.due("16 it did, and OWES nothing", all.bear(0, 1), STATE);
        all.night();
        Edges.due("16 it OWES nothing", all.bear(0, 1), STATE);
        ColdShares bought = Edges.streetOf("n99 h03 h09");
        bought.bear(0, 3);
        bought.sell(1, 0, 5);
        Edges.due("16 it did, and bought", bought.bear(0, 1), STATE);
        bought.undo(0);
        Edges.due("16 what is undone it did not", bought.bear(0, 2), 4);
    }

    private static void bearFull() {
        Edges.taken("16 the 60th DEED", () -> Edges.withDeeds(59), x -> x.bear(0, 2), 0);
        Edges.refused("16 FULL: 60 DEEDS", () -> Edges.withDeeds(60), x -> x.bear(0, 2), FULL);
        Edges.refused("16 FULL last: more than it can", () -> Edges.withDeeds(60), x -> x.bear(0, 6), STATE);
        Edges.refused("16 FULL last: more than it OWES", () -> Edges.withDeeds(60), x -> x.bear(2, 2), STATE);
        Edges.refused("16 FULL last: CANDLEMAS", () -> Edges.candlemasWithDeeds(60), x -> x.bear(0, 1), STATE);
        Edges.Made did = () -> {
            ColdShares x = Edges.withDeeds(59);
            x.bear(0, 1);
            return x;
        };
        Edges.refused("16 FULL last: it did", did, x -> x.bear(0, 1), STATE);
        ColdShares x = Edges.withDeeds(60);
        x.undo(59);
        Edges.due("16 one undone, one more", x.bear(0, 2), 0);
        Edges.due("16 there are 60 again", x.count(3), 60);
    }

    private static void sellNumbers() {
        for (int h : new int[] {-1, 4, 5, MIN, MAX}) {
            Edges.refused("17 BAD: who sells " + h, Edges::lived, x -> x.sell(h, 0, 1), BAD);
            Edges.refused("17 BAD: who buys " + h, Edges::lived, x -> x.sell(0, h, 1), BAD);
            Edges.refused("17 BAD: both " + h, Edges::lived, x -> x.sell(h, h, 1), BAD);
        }
        for (int h = 0; h < 4; h++) {
            int same = h;
            Edges.refused("17 BAD: also the same " + h, Edges::lived, x -> x.sell(same, same, 1), BAD);
        }
        for (int d : new int[] {0, -1, MIN}) {
            Edges.refused("17 BAD: d (1 ..): " + d, Edges::lived, x -> x.sell(0, 1, d), BAD);
        }
        Edges.refused("17 BAD: no HOUSES", ColdShares::new, x -> x.sell(0, 1, 1), BAD);
        Edges.refused("17 BAD: one HOUSE", () -> Edges.streetOf("n5 h15"), x -> x.sell(0, 1, 1), BAD);
        Edges.refused("17 BAD ahead of STATE: the same", Edges::lived, x -> x.sell(0, 0, 99), BAD);
        Edges.refused("17 BAD ahead of STATE: who buys", Edges::lived, x -> x.sell(0, 4, 99), BAD);
        Edges.refused("17 BAD ahead of FULL: the same", () -> Edges.withDeeds(60), x -> x.sell(0, 0, 1), BAD);
        Edges.refused("17 BAD ahead of FULL: degrees", () -> Edges.withDeeds(60), x -> x.sell(0, 1, 0), BAD);
    }

    private static void sellTops() {
        Edges.taken("17 one degree", Edges::lived, x -> x.sell(1, 3, 1), 3);
        Edges.taken("17 all that it OWES", Edges::lived, x -> x.sell(1, 3, 8), 10);
        for (int d : new int[] {9, 10, 99, 100, MAX, MAX - 2}) {
            Edges.refused("17 STATE: it does not OWE as many: " + d, Edges::lived, x -> x.sell(1, 3, d), STATE);
        }
        ColdShares none = Edges.streetOf("n9 h00 h05");
        Edges.due("17 STATE: it OWES none", none.sell(0, 1, 1), STATE);
        Edges.due("17 to one that OWES none", none.sell(1, 0, 5), 5);
        Edges.told("17 who sold OWES none", none, none.house(1, 2), 0);
        Edges.due("17 and sold back", none.sell(0, 1, 5), 5);
        // 99 at most each: all of five HOUSES are 45, and one may OWE them all.
        ColdShares all = Edges.streetOf("n9 h09 h09 h09 h09 h09");
        for (int h = 0; h < 4; h++) {
            Edges.due("17 below 99 at most each", all.sell(h, 4, 9), 9 * (h + 2));
        }
        Edges.due("17 all at once", all.sell(4, 0, 45), 45);
        Edges.due("17 STATE: one more than all", all.sell(0, 1, 46), STATE);
        Edges.due("17 all that is OWED is as it was", all.count(4), 45);
        ColdShares did = Edges.lived();
        Edges.due("17 who did BEAR tonight sells", did.sell(0, 1, 2), 10);
        Edges.due("17 who did BEAR tonight buys", did.sell(1, 0, 3), 3);
        Edges.taken("17 at CANDLEMAS, too", () -> Edges.candlemasWithDeeds(1), x -> x.sell(0, 2, 8), 9);
    }

    private static void sellFull() {
        Edges.taken("17 the 60th DEED", () -> Edges.withDeeds(59), x -> x.sell(0, 2, 1), 2);
        Edges.refused("17 FULL", () -> Edges.withDeeds(60), x -> x.sell(0, 2, 1), FULL);
        Edges.refused("17 FULL at CANDLEMAS", () -> Edges.candlemasWithDeeds(60), x -> x.sell(0, 2, 1), FULL);
        Edges.refused("17 FULL last", () -> Edges.withDeeds(60), x -> x.sell(2, 0, 2), STATE);
    }

    private static void nightEdges() {
        Edges.refused("18 STATE: no HOUSES", ColdShares::new, ColdShares::night, STATE);
        Edges.refused("18 STATE: it is CANDLEMAS", () -> Edges.candlemasWithDeeds(1), ColdShares::night, STATE);
        ColdShares one = Edges.streetOf("n0 h00");
        Edges.due("2 NIGHT 0 is at first", one.count(2), 0);
        Edges.due("18 the last of one", one.night(), 0);
        Edges.due("2 CANDLEMAS is as many as there are", one.count(2), 1);
        ColdShares eight = Edges.streetOf("n12345678 h00");
        for (int left = 7; left >= 0; left--) {
            Edges.due("18 how many are left", eight.night(), left);
            Edges.due("18 the NIGHT", eight.count(2), 8 - left);
        }
        Edges.due("18 STATE: no NIGHTS more", eight.night(), STATE);
        Edges.due("18 DEEDS are NIGHTS that go by", eight.count(3), 8);
        eight.undo(7);
        Edges.due("18 the last NIGHT again", eight.night(), 0);
    }

    private static void nightFull() {
        Edges.taken("18 the 60th DEED", () -> Edges.withDeeds(59), ColdShares::night, 7);
        Edges.refused("18 FULL", () -> Edges.withDeeds(60), ColdShares::night, FULL);
        Edges.refused("18 FULL last", () -> Edges.candlemasWithDeeds(60), ColdShares::night, STATE);
        Edges.refused("18 STATE: one DEED less", () -> Edges.candlemasWithDeeds(59), ColdShares::night, STATE);
    }

    private static void undoNumbers() {
        for (int n : new int[] {-1, 5, 6, 60, 61, MIN, MAX}) {
            Edges.refused("19 BAD: number " + n + " of 4", Edges::lived, x -> x.undo(n), BAD);
        }
        for (int n = 0; n <= 4; n++) {
            int from = n;
            Edges.taken("19 how many from " + n + " on", Edges::lived, x -> x.undo(from), 4 - n);
        }
        Edges.taken("19 no HOUSES, no DEEDS", ColdShares::new, x -> x.undo(0), 0);
        Edges.refused("19 BAD: no HOUSES", ColdShares::new, x -> x.undo(1), BAD);
        Edges.refused("19 BAD: no HOUSES, below", ColdShares::new, x -> x.undo(-1), BAD);
        Edges.taken("19 all of 60", () -> Edges.withDeeds(60), x -> x.undo(0), 60);
        Edges.taken("19 the 60th", () -> Edges.withDeeds(60), x -> x.undo(59), 1);
        Edges.taken("19 none of 60", () -> Edges.withDeeds(60), x -> x.undo(60), 0);
        Edges.refused("19 BAD: beyond 60", () -> Edges.withDeeds(60), x -> x.undo(61), BAD);
        ColdShares twice = Edges.lived();
        twice.undo(2);
        Edges.due("19 BAD: what is undone can't be undone", twice.undo(3), BAD);
        Edges.due("19 none more", twice.undo(2), 0);
    }

    private static void undoEachDeed() {
        Edges.asks("19 none undone changes nothing", Edges::lived, x -> x.undo(4), 0);
        ColdShares x = Edges.lived();
        Edges.due("19 degrees BORNE undone", x.undo(3), 1);
        Edges.told("19 it did not BEAR", x, x.house(0, 4), NONE);
        Edges.told("19 it OWES again", x, x.house(0, 2), 6);
        Edges.told("19 it was not HURT", x, x.house(0, 3), 4);
        Edges.due("19 the NIGHT is still gone by", x.count(2), 1);
        Edges.due("19 a NIGHT undone", x.undo(2), 1);
        Edges.due("19 the NIGHT before", x.count(2), 0);
        Edges.told("19 it did BEAR in that NIGHT", x, x.house(0, 4), 3);
        Edges.told("19 what was sold is sold", x, x.house(3, 2), 2);
        Edges.due("19 degrees SOLD undone", x.undo(1), 1);
        Edges.told("19 who bought", x, x.house(3, 2), 0);
        Edges.told("19 who sold", x, x.house(2, 2), 9);
        Edges.due("19 the first DEED undone", x.undo(0), 1);
        Edges.told("19 as at first", x, x.house(0, 2), 9);
        Edges.due("19 nothing was HURT", x.count(5), 0);
        Edges.due("19 the COLD is as it was", x.cold(0), 4);
        Edges.due("19 kept STREETS are left", x.count(9), 2);
        ColdShares late = Edges.candlemasWithDeeds(60);
        Edges.due("19 from CANDLEMAS", late.undo(0), 60);
        Edges.due("19 NIGHT 0 again", late.count(2), 0);
        ColdShares blown = Edges.streetOf("n5 h15");
        blown.wind(0, 7);
        blown.bear(0, 5);
        blown.undo(0);
        Edges.due("19 wind() is no DEED", blown.cold(0), 7);
    }

    private static void keepEdges() {
        for (int k : new int[] {-1, 3, MIN, MAX}) {
            Edges.refused("20 BAD: place " + k, Edges::lived, x -> x.keep(k), BAD);
            Edges.refused("20 BAD ahead of STATE: place " + k, ColdShares::new, x -> x.keep(k), BAD);
        }
        for (int k = 0; k < 3; k++) {
            int place = k;
            Edges.refused("20 STATE: no HOUSES, place " + k, ColdShares::new, x -> x.keep(place), STATE);
            Edges.taken("20 how many DEEDS, place " + k, Edges::lived, x -> x.keep(place), 4);
        }
        Edges.taken("20 no DEEDS", () -> Edges.withDeeds(0), x -> x.keep(2), 0);
        Edges.taken("20 60 DEEDS", () -> Edges.withDeeds(60), x -> x.keep(0), 60);
        Edges.taken("20 at CANDLEMAS", () -> Edges.candlemasWithDeeds(1), x -> x.keep(0), 1);
        ColdShares x = Edges.streetOf("n5 h15");
        for (int k = 0; k < 3; k++) {
            x.keep(k);
            Edges.due("20 one more is kept", x.count(9), k + 1);
        }
        x.night();
        x.keep(1);
        Edges.due("20 the place of another one", x.count(9), 3);
        Edges.due("20 the other one goes", x.on(1), 1);
        Edges.due("20 those beside it are as they were", x.on(0), 0);
        Edges.due("20 those beside it are as they were", x.on(2), 0);
        ColdShares kept = Edges.lived();
        long before = kept.digest();
        kept.keep(2);
        Edges.due("20 the STREET goes on as it is", kept.count(3), 4);
        kept.on(2);
        Edges.due("20 the same DEEDS kept: nothing changes", kept.digest(), before);
    }

    private static void onEdges() {
        for (int k : new int[] {-1, 3, MIN, MAX}) {
            Edges.refused("21 BAD: place " + k, Edges::lived, x -> x.on(k), BAD);
            Edges.refused("21 BAD ahead of NOTHING: place " + k, ColdShares::new, x -> x.on(k), BAD);
        }
        Edges.finds("21 NOTHING", Edges::lived, x -> x.on(1), NOTHING);
        Edges.finds("21 NOTHING: no HOUSES", ColdShares::new, x -> x.on(2), NOTHING);
        Edges.taken("21 no DEEDS", Edges::lived, x -> x.on(0), 0);
        Edges.taken("21 how many DEEDS", Edges::lived, x -> x.on(2), 4);
        ColdShares full = Edges.withDeeds(60);
        full.keep(1);
        full.undo(0);
        Edges.due("21 60 DEEDS", full.on(1), 60);
        Edges.due("21 60 DEEDS: FULL", full.night(), FULL);
        Edges.due("21 60 DEEDS: undone", full.undo(0), 60);
        ColdShares other = Edges.withDeeds(60);
        other.keep(1);
        other.undo(0);
        for (int i = 0; i < 30; i++) {
            other.sell(1, 2, 4);
            other.sell(2, 1, 4);
        }
        Edges.due("21 60 DEEDS for 60 others", other.on(1), 60);
        for (int deeds = 60; deeds > 0; deeds--) {
            dueOwes("21 DEEDS as kept, " + deeds, other, deeds % 2 == 0 ? 8 : 7, deeds % 2 == 0 ? 9 : 10, 1);
            other.undo(deeds - 1);
        }
    }

    private static void onAsItWasKept() {
        ColdShares x = Edges.lived();
        x.on(2);
        Edges.due("21 the NIGHT", x.count(2), 1);
        Edges.told("21 who did BEAR", x, x.house(1, 4), 2);
        Edges.told("21 who did not", x, x.house(0, 4), NONE);
        Edges.due("21 it is kept still", x.count(9), 2);
        x.night();
        x.undo(0);
        Edges.due("21 what is kept stays as it was", x.on(2), 4);
        Edges.due("21 what is kept stays as it was: the NIGHT", x.count(2), 1);
        x.on(0);
        Edges.due("21 without DEEDS the wind may blow", x.wind(0, 9), 4);
        x.keep(1);
        x.on(0);
        Edges.due("21 COLD as it was kept", x.cold(0), 4);
        x.on(1);
        Edges.due("21 COLD as it was kept behind the wind", x.cold(0), 9);
        x.on(2);
        Edges.due("21 COLD as it was kept ahead of the wind", x.cold(0), 4);
        Edges.due("21 kept DEEDS can be undone", x.undo(1), 3);
        Edges.told("21 ROWS are left", x, x.at(0, 2), 9);
        ColdShares late = Edges.candlemasWithDeeds(1);
        late.keep(0);
        late.undo(0);
        late.on(0);
        Edges.due("21 CANDLEMAS as it was kept", late.night(), STATE);
        Edges.due("21 other places are missing", late.on(1), FINDING);
    }

    private static void dueOwes(String sentence, ColdShares x, int... want) {
        for (int h = 0; h < want.length; h++) {
            Edges.told(sentence + ", what HOUSE " + h + " OWES", x, x.house(h, 2), want[h]);
        }
    }

    /** Other DEEDS of the same numbers come in between: of another HOUSE, to another one, of other degrees, of other sorts. */
    private static void onWithTheDeedsKept() {
        ColdShares x = Edges.streetOf("n55 h09 h09 h09 h09");
        x.sell(0, 1, 2);
        x.bear(2, 3);
        x.night();
        x.bear(3, 1);
        x.keep(1);
        x.undo(0);
        x.sell(3, 2, 5);
        x.sell(1, 0, 4);
        x.bear(0, 5);
        x.sell(2, 3, 1);
        x.keep(2);
        x.undo(0);
        x.night();
        x.night();
        Edges.due("21 the DEEDS of place 1", x.on(1), 4);
        dueOwes("21 who sold to whom, and BORE", x, 7, 11, 6, 8);
        Edges.due("21 the NIGHT of place 1", x.count(2), 1);
        Edges.due("21 what was HURT by place 1", x.count(5), 9 + 1);
        Edges.due("21 the DEEDS of place 2", x.on(2), 4);
        dueOwes("21 who sold to whom in the other one", x, 8, 5, 13, 5);
        Edges.due("21 the NIGHT of place 2", x.count(2), 0);
        Edges.due("21 what was HURT by place 2", x.count(5), 25);
        Edges.due("21 one of those sales undone", x.undo(1), 3);
        dueOwes("21 one of those sales is left", x, 9, 9, 14, 4);
        x.on(1);
        Edges.due("21 all but the sale undone", x.undo(1), 3);
        dueOwes("21 the sale is left", x, 7, 11, 9, 9);
    }

    private static void onUndoneToTheFirst() {
        ColdShares x = Edges.streetOf("n55 c09 m08 y07");
        x.wind(1, 4);
        x.sell(0, 1, 9);
        x.bear(1, 2);
        x.keep(0);
        x.undo(0);
        x.wind(0, 1);
        Edges.due("21 behind another wind", x.on(0), 2);
        Edges.due("21 all of it undone", x.undo(0), 2);
        dueOwes("21 as at first", x, 9, 8, 7);
        Edges.due("21 as at first, the COLD kept", x.cold(0), 5);
        Edges.due("21 as at first, the wind ahead of it", x.cold(1), 4);
        Edges.told("21 as at first, the KIND", x, x.house(2, 0), 4);
        Edges.due("21 nothing was HURT", x.count(5), 0);
        Edges.due("21 without DEEDS again", x.wind(0, 9), 5);
    }
}
