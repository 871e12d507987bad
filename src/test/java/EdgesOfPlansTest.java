/** Promises 22 to 31, and what a PLAN is: each sentence that names an edge. */
public final class EdgesOfPlansTest {
    private static final int BAD = Edges.BAD, STATE = Edges.STATE, NONE = Edges.NONE;
    private static final int MIN = Edges.MIN, MAX = Edges.MAX;
    private static final int[] NO_HOUSES_OF_4 = {-1, 4, 5, MIN, MAX};
    private static final int[] NO_ROWS = {-1, 6, MIN, MAX};

    private EdgesOfPlansTest() {
    }

    public static void main(String[] args) {
        hurtNumbers();
        hurtByKinds();
        mostEdges();
        leastNumbers();
        leastNone();
        leastFirst();
        leastRow();
        priceEdges();
        lateEdges();
        gainNumbers();
        gainNone();
        gainValues();
        salesEdges();
        shareNumbers();
        shareNone();
        shareFirst();
        savesNumbers();
        savesNone();
        savesValues();
        partEdges();
        eachHouse();
        Edges.end();
    }

    private static ColdShares allOwedByTheFirst(String nights, String first) {
        ColdShares x = Edges.streetOf(nights + first + "9h09h09h09h09");
        for (int h = 1; h < 5; h++) {
            x.sell(h, 0, 9);
        }
        return x;
    }

    // ---- 22

    private static void hurtNumbers() {
        for (int h : NO_HOUSES_OF_4) {
            Edges.refused("22 BAD: HOUSE " + h, Edges::lived, x -> x.hurt(h, 1), BAD);
        }
        for (int d : new int[] {-1, 10, MIN, MAX}) {
            Edges.refused("22 BAD: degrees " + d, Edges::lived, x -> x.hurt(0, d), BAD);
        }
        Edges.refused("22 BAD: no HOUSES", ColdShares::new, x -> x.hurt(0, 0), BAD);
        Edges.asks("22 0 degrees", Edges::lived, x -> x.hurt(0, 0), 0);
        Edges.asks("22 9 degrees", Edges::lived, x -> x.hurt(0, 9), 64);
        Edges.asks("22 whether it can or not: a MISER", Edges::lived, x -> x.hurt(1, 9), 81);
        Edges.asks("22 whether it can or not: no COLD", () -> Edges.streetOf("n0h09"), x -> x.hurt(0, 9), 81);
        Edges.asks("22 whether it can or not: it OWES none", () -> Edges.streetOf("n9h00"), x -> x.hurt(0, 9), 81);
        Edges.asks("22 whether it can or not: CANDLEMAS", () -> Edges.candlemasWithDeeds(1), x -> x.hurt(0, 9), 49);
    }

    private static void dueHurt(String house, int... want) {
        for (int d = 0; d <= 9; d++) {
            int degrees = d;
            Edges.taken("22 what " + d + " HURT " + house, () -> Edges.streetOf("n9" + house), x -> x.hurt(0, degrees), want[d]);
        }
    }

    private static void hurtByKinds() {
        dueHurt("h00", 0, 1, 4, 9, 16, 25, 36, 49, 64, 81);
        dueHurt("h50", 0, 0, 0, 0, 0, 0, 1, 4, 9, 16);
        dueHurt("h90", 0, 0, 0, 0, 0, 0, 0, 0, 0, 0);
        dueHurt("s00", 0, 0, 0, 1, 4, 9, 16, 25, 36, 49);
        dueHurt("s50", 0, 0, 0, 0, 0, 0, 0, 0, 1, 4);
        dueHurt("s60", 0, 0, 0, 0, 0, 0, 0, 0, 0, 1);
        dueHurt("s70", 0, 0, 0, 0, 0, 0, 0, 0, 0, 0);
        dueHurt("s90", 0, 0, 0, 0, 0, 0, 0, 0, 0, 0);
        dueHurt("p00", 0, 2, 8, 18, 32, 50, 72, 98, 128, 162);
        dueHurt("p50", 0, 0, 0, 0, 0, 0, 2, 8, 18, 32);
        dueHurt("m00", 0, 1, 4, 9, 16, 25, 36, 49, 64, 81);
        dueHurt("m50", 0, 0, 0, 0, 0, 0, 1, 4, 9, 16);
        dueHurt("y00", 0, 0, 0, 0, 0, 0, 0, 0, 0, 0);
        dueHurt("y50", 0, 0, 0, 0, 0, 0, 0, 0, 0, 0);
        dueHurt("c00", 0, 2, 8, 18, 32, 50, 72, 98, 128, 162);
        dueHurt("c10", 0, 2, 8, 18, 32, 50, 72, 98, 128, 162);
        dueHurt("c20", 0, 0, 2, 8, 18, 32, 50, 72, 98, 128);
        dueHurt("c90", 0, 0, 0, 0, 0, 0, 0, 0, 0, 2);
    }

    // ---- 23

    private static void mostEdges() {
        for (int h : NO_HOUSES_OF_4) {
            Edges.refused("23 BAD: HOUSE " + h, Edges::lived, x -> x.most(h), BAD);
        }
        Edges.refused("23 BAD: no HOUSES", ColdShares::new, x -> x.most(0), BAD);
        Edges.asks("23 it did BEAR tonight", Edges::lived, x -> x.most(0), 3);
        Edges.asks("23 a MISER from now on", Edges::lived, x -> x.most(1), 4);
        Edges.asks("23 if it OWED as much", Edges::lived, x -> x.most(3), 10);
        Edges.asks("23 CANDLEMAS", () -> Edges.candlemasWithDeeds(1), x -> x.most(0), 0);
        Edges.asks("23 the most of all", () -> Edges.streetOf("n99999999h00"), x -> x.most(0), 72);
        Edges.asks("23 no COLD", () -> Edges.streetOf("n00000000h09"), x -> x.most(0), 0);
        Edges.asks("23 a MISER by COLD 0, 1, 2, 3", () -> Edges.streetOf("n0123m09"), x -> x.most(0), 5);
        Edges.asks("23 a MAYOR by COLD 0, 1, 2, 3", () -> Edges.streetOf("n0123y09"), x -> x.most(0), 5);
        Edges.asks("23 one NIGHT", () -> Edges.streetOf("n7c00"), x -> x.most(0), 7);
    }

    // ---- 24

    private static void leastNumbers() {
        for (int h : NO_HOUSES_OF_4) {
            Edges.refused("24 BAD: HOUSE " + h, Edges::lived, x -> x.least(h, 0), BAD);
        }
        for (int r : NO_ROWS) {
            Edges.refused("24 BAD: ROW " + r, Edges::lived, x -> x.least(0, r), BAD);
            Edges.refused("24 BAD: both", Edges::lived, x -> x.least(4, r), BAD);
            Edges.refused("24 BAD ahead of NONE: ROW " + r, () -> Edges.candlemasWithDeeds(1), x -> x.least(0, r), BAD);
        }
        Edges.refused("24 BAD: no HOUSES", ColdShares::new, x -> x.least(0, 0), BAD);
        for (int r = 0; r < 6; r++) {
            ColdShares x = Edges.streetOf("n23h05");
            Edges.due("24 to ROW " + r, x.least(0, r), 13);
            Edges.due("24 one ROW is there", x.count(7), 1);
            Edges.places("24 to ROW " + r, x, r, 2, 3);
        }
    }

    private static void leastNone() {
        Edges.taken("24 just what it can", () -> Edges.streetOf("n45h09"), x -> x.least(0, 0), 41);
        Edges.refused("24 NONE: one more than it can", () -> Edges.streetOf("n44h09"), x -> x.least(0, 0), NONE);
        Edges.taken("24 just what a MISER can", () -> Edges.streetOf("n919m05"), x -> x.least(0, 0), 9);
        Edges.refused("24 NONE: one more than a MISER can", () -> Edges.streetOf("n919m06"), x -> x.least(0, 0), NONE);
        Edges.refused("24 NONE: the ROW is as it was", Edges::lived, x -> x.least(1, 0), NONE);
        Edges.refused("24 NONE: a missing ROW is missing", Edges::lived, x -> x.least(1, 5), NONE);
        Edges.refused("24 NONE: CANDLEMAS", () -> Edges.candlemasWithDeeds(1), x -> x.least(2, 0), NONE);
        Edges.Made did = () -> {
            ColdShares x = Edges.streetOf("n45h09");
            x.bear(0, 3);
            return x;
        };
        Edges.refused("24 NONE: nothing tonight, if it did", did, x -> x.least(0, 0), NONE);
        Edges.taken("24 it OWES none, and there is no COLD", () -> Edges.streetOf("n00h00"), x -> x.least(0, 0), 0);
    }

    private static void dueLeast(String sentence, ColdShares x, int want, int... plan) {
        Edges.due("24 " + sentence, x.least(0, 2), want);
        Edges.places("24 " + sentence, x, 2, plan);
    }

    private static void leastFirst() {
        dueLeast("fewer degrees ahead of more", Edges.streetOf("n99h05"), 13, 2, 3);
        dueLeast("the first by NIGHTS", Edges.streetOf("n999h95"), 0, 0, 0, 5);
        dueLeast("the first by NIGHTS, as much as the last has COLD", Edges.streetOf("n992h95"), 0, 0, 3, 2);
        dueLeast("all alike", Edges.streetOf("n999h06"), 12, 2, 2, 2);
        dueLeast("a MAYOR, late", Edges.streetOf("n999y05"), 0, 1, 2, 2);
        dueLeast("a STOUT one", Edges.streetOf("n99s09"), 13, 4, 5);
        dueLeast("no COLD between", Edges.streetOf("n909h04"), 8, 2, 0, 2);
        dueLeast("one NIGHT", Edges.streetOf("n9c09"), 162, 9);
        dueLeast("together just what it OWES: none", Edges.streetOf("n99h00"), 0, 0, 0);
        dueLeast("all of five", allOwedByTheFirst("n99999999", "h0"), 255, 5, 5, 5, 6, 6, 6, 6, 6);
    }

    private static void leastRow() {
        ColdShares x = Edges.streetOf("n12345678 h09");
        x.row(2, 40);
        dueLeast("anew, of 40 come 8", x, 11, 1, 1, 1, 1, 1, 1, 1, 2);
        x.bear(0, 1);
        dueLeast("nothing tonight, if it did", x, 10, 0, 1, 1, 1, 1, 1, 1, 2);
        x.night();
        dueLeast("as many as NIGHTS from this one on: 7", x, 10, 1, 1, 1, 1, 1, 1, 2);
        x.night();
        dueLeast("as many as NIGHTS from this one on: 6", x, 12, 1, 1, 1, 1, 2, 2);
        for (int night = 3; night <= 7; night++) {
            x.night();
        }
        dueLeast("as many as NIGHTS from this one on: 1", x, 64, 8);
        ColdShares behind = Edges.streetOf("n35 m33 h06");
        Edges.due("24 behind a MISER", behind.least(1, 2), 18);
        Edges.places("24 behind a MISER", behind, 2, 3, 3);
        behind.bear(0, 1);
        Edges.due("24 behind one that did BEAR", behind.least(1, 2), 18);
        Edges.places("24 behind one that did BEAR", behind, 2, 3, 3);
        ColdShares none = Edges.streetOf("n1 h00");
        none.row(2, 3);
        none.night();
        dueLeast("CANDLEMAS, nothing OWED: an empty ROW", none, 0);
        Edges.due("24 an empty ROW is there", none.count(7), 1);
    }

    // ---- 25

    private static void duePrice(String sentence, String signs, int want) {
        Edges.asks("25 " + sentence, () -> Edges.streetOf(signs), x -> x.price(0), want);
    }

    private static void priceEdges() {
        for (int h : NO_HOUSES_OF_4) {
            Edges.refused("25 BAD: HOUSE " + h, Edges::lived, x -> x.price(h), BAD);
        }
        Edges.refused("25 BAD: no HOUSES", ColdShares::new, x -> x.price(0), BAD);
        duePrice("the last degree that it can BEAR", "n45h08", 9);
        duePrice("NONE: it can't BEAR that", "n45h09", NONE);
        duePrice("NONE: not even what it OWES", "n44h09", NONE);
        duePrice("it costs nothing", "n9h54", 0);
        duePrice("the first that costs", "n9h55", 1);
        duePrice("it OWES none", "n9p00", 2);
        duePrice("the dearest of all", "n9c08", 34);
        duePrice("a MAYOR", "n9y01", 0);
        duePrice("NONE: a MAYOR can't", "n9y02", NONE);
        duePrice("no COLD", "n0h00", NONE);
        Edges.asks("25 CANDLEMAS", () -> Edges.candlemasWithDeeds(1), x -> x.price(0), NONE);
        Edges.asks("25 it did BEAR, and can't in the last NIGHT", Edges::lived, x -> x.price(0), 3);
        Edges.asks("25 the 46th degree", () -> allOwedByTheFirst("n99999999", "h0"), x -> x.price(0), 11);
        Edges.asks("25 NONE: the 46th degree", () -> allOwedByTheFirst("n99999", "h0"), x -> x.price(0), NONE);
        Edges.asks("25 NONE: all of five, a MISER", () -> allOwedByTheFirst("n99999999", "m0"), x -> x.price(0), NONE);
    }

    // ---- 26

    private static void dueLate(String sentence, ColdShares x, int set, int pain) {
        Edges.due("26 " + sentence, x.late(), set);
        Edges.due("26 " + sentence + ", asked()", x.asked(), pain);
    }

    private static void lateEdges() {
        dueLate("no HOUSES", Edges.rowOf(3), 0, 0);
        ColdShares told = Edges.rowOf(3);
        told.at(0, 0);
        dueLate("no HOUSES, asked() is 0 then", told, 0, 0);
        dueLate("none", Edges.streetOf("n22h04h04"), 0, 16);
        dueLate("just one more than it can", Edges.streetOf("n22h05h04"), 1, 8);
        dueLate("the last of five", Edges.streetOf("n9h01h01h01h01m03"), 16, 4);
        dueLate("all", Edges.streetOf("n0h01h01h01h01h01"), 31, 0);
        dueLate("just what a MISER can", Edges.streetOf("n9m02y02"), 0, 4);
        dueLate("none by themselves, though sharing would do", Edges.streetOf("n9m03h00"), 1, 0);
        ColdShares x = Edges.streetOf("n99h05h00");
        x.bear(0, 2);
        x.night();
        x.night();
        dueLate("CANDLEMAS: who OWES", x, 1, 0);
        x.sell(0, 1, 3);
        dueLate("CANDLEMAS: who bought", x, 2, 0);
        Edges.due("26 it only asks", x.count(3), 4);
    }

    // ---- 27

    private static void gainNumbers() {
        for (int h : NO_HOUSES_OF_4) {
            Edges.refused("27 BAD: who sells " + h, Edges::lived, x -> x.gain(h, 0), BAD);
            Edges.refused("27 BAD: who buys " + h, Edges::lived, x -> x.gain(0, h), BAD);
            Edges.refused("27 BAD: both " + h, Edges::lived, x -> x.gain(h, h), BAD);
        }
        for (int h = 0; h < 4; h++) {
            int same = h;
            Edges.refused("27 BAD: also the same", Edges::lived, x -> x.gain(same, same), BAD);
        }
        Edges.refused("27 BAD ahead of NONE", () -> Edges.candlemasWithDeeds(1), x -> x.gain(0, 0), BAD);
        Edges.refused("27 BAD: no HOUSES", ColdShares::new, x -> x.gain(0, 1), BAD);
        Edges.refused("27 BAD: one HOUSE", () -> Edges.streetOf("n9h05"), x -> x.gain(0, 1), BAD);
    }

    private static void dueGain(String sentence, String houses, int want) {
        Edges.asks("27 " + sentence, () -> Edges.streetOf("n5" + houses), x -> x.gain(0, 1), want);
    }

    private static void gainNone() {
        dueGain("NONE: who sells has no PLAN ahead of it", "h06h00", NONE);
        dueGain("NONE: who sells has no PLAN ahead of it, and who buys is HURT", "h06h02", NONE);
        dueGain("NONE: who sells has no PLAN behind it", "h07h00", NONE);
        dueGain("NONE: who sells has no PLAN behind it, and who buys is HURT", "h07h02", NONE);
        dueGain("NONE: both have no PLAN ahead of it", "h06h06", NONE);
        dueGain("NONE: who buys has no PLAN ahead of it", "h05h06", NONE);
        dueGain("NONE: who buys has no PLAN behind it", "h05h05", NONE);
        dueGain("NONE: a MISER has no PLAN behind it", "h05m02", NONE);
        dueGain("NONE: who buys has no PLAN behind it, and nothing HURTS", "y02y02", NONE);
        dueGain("NONE: it OWES none", "h00h00", NONE);
        dueGain("NONE: it OWES none, and nothing HURTS", "h00h90", NONE);
        dueGain("just what both can", "h05h04", 100);
        dueGain("it OWES one", "h01h00", 100);
        Edges.asks("27 NONE: CANDLEMAS", () -> Edges.candlemasWithDeeds(1), x -> x.gain(0, 1), NONE);
    }

    private static void gainValues() {
        dueGain("nobody gains", "h03h02", 100);
        dueGain("less by two", "h02h00", 102);
        dueGain("less by one", "h45h10", 101);
        dueGain("more by one", "h11h44", 99);
        Edges.asks("27 the most that is gained", () -> Edges.streetOf("n9c09h90"), x -> x.gain(0, 1), 134);
        Edges.asks("27 the most that is lost", () -> Edges.streetOf("n9h91c08"), x -> x.gain(0, 1), 66);
        Edges.asks("27 all of five buy no more", () -> allOwedByTheFirst("n99999999", "h0"), x -> x.gain(0, 4), 110);
    }

    // ---- 28

    private static void dueSales(String sentence, ColdShares x, int pairs, int first) {
        long deeds = x.count(3);
        Edges.due("28 " + sentence, x.sales(), pairs);
        Edges.due("28 " + sentence + ", asked()", x.asked(), first);
        Edges.due("28 nothing is sold by it", x.count(3), deeds);
    }

    private static void salesEdges() {
        dueSales("no HOUSES", new ColdShares(), 0, NONE);
        dueSales("one HOUSE", Edges.streetOf("n9h09"), 0, NONE);
        dueSales("just 100 gains nothing", Edges.streetOf("n9h03h02"), 0, NONE);
        dueSales("101 gains", Edges.streetOf("n9h45h10"), 1, 1);
        dueSales("the first that gains most: alike", Edges.streetOf("n9h02h02h00"), 2, 2);
        dueSales("the first that gains most: a later one gains more", Edges.streetOf("n9h02h03h00"), 2, 8);
        dueSales("who buys, the first of alike", Edges.streetOf("n9h00h05h00"), 2, 6);
        dueSales("nobody can buy", Edges.streetOf("n9m02m02m02m02h05"), 0, NONE);
        dueSales("the last pair", Edges.streetOf("n9y02y02y02h00h05"), 1, 27);
        dueSales("the first pair", Edges.streetOf("n9h05h00y02y02y02"), 1, 1);
        dueSales("all can't", Edges.streetOf("n0h09h09h09h09h09"), 0, NONE);
        dueSales("CANDLEMAS", Edges.candlemasWithDeeds(1), 0, NONE);
        dueSales("all that can gain", Edges.streetOf("n9h05h05h05h00h00"), 6, 3);
    }

    // ---- 29

    private static void shareNumbers() {
        for (int r : NO_ROWS) {
            Edges.refused("29 BAD: ROW " + r, Edges::lived, x -> x.share(r), BAD);
            Edges.refused("29 BAD ahead of STATE: ROW " + r, ColdShares::new, x -> x.share(r), BAD);
            Edges.refused("29 BAD ahead of NONE: ROW " + r, () -> Edges.candlemasWithDeeds(1), x -> x.share(r), BAD);
        }
        Edges.refused("29 STATE: no HOUSES", ColdShares::new, x -> x.share(0), STATE);
        Edges.refused("29 STATE: no HOUSES", ColdShares::new, x -> x.share(5), STATE);
        for (int r = 0; r < 6; r++) {
            ColdShares x = Edges.streetOf("n9h05h00");
            Edges.due("29 to ROW " + r, x.share(r), 13);
            Edges.due("29 one ROW is there", x.count(7), 1);
            Edges.places("29 to ROW " + r, x, r, 2, 3);
        }
    }

    private static void shareNone() {
        Edges.taken("29 just what all can", () -> Edges.streetOf("n3h05m00"), x -> x.share(0), 13);
        Edges.refused("29 NONE: one more than all can", () -> Edges.streetOf("n3h06m00"), x -> x.share(0), NONE);
        Edges.refused("29 NONE: a ROW that is there is as it was",
            () -> withRow(Edges.streetOf("n3h06m00")), x -> x.share(0), NONE);
        Edges.refused("29 NONE: CANDLEMAS", () -> Edges.candlemasWithDeeds(1), x -> x.share(0), NONE);
        Edges.Made did = () -> {
            ColdShares x = Edges.streetOf("n3h05m00");
            x.bear(0, 1);
            return x;
        };
        Edges.refused("29 NONE: who did BEAR can't", did, x -> x.share(0), NONE);
        Edges.taken("29 all of 45, just so", () -> Edges.streetOf("n9h09h09h09h09h09"), x -> x.share(0), 405);
        Edges.refused("29 NONE: all of 45", () -> Edges.streetOf("n9h09h09h09h09m09"), x -> x.share(0), NONE);
    }

    private static ColdShares withRow(ColdShares x) {
        x.row(0, 2);
        x.lay(0, 1, 5);
        return x;
    }

    private static void dueShare(String sentence, ColdShares x, int want, int... shares) {
        int deeds = x.count(3);
        Edges.due("29 " + sentence, x.share(2), want);
        Edges.places("29 " + sentence, x, 2, shares);
        Edges.due("29 nothing is sold by it", x.count(3), deeds);
    }

    private static void shareFirst() {
        dueShare("one HOUSE", Edges.streetOf("n9h05"), 25, 5);
        dueShare("fewer ahead of more", Edges.streetOf("n9h03h02h00"), 9, 1, 2, 2);
        dueShare("the first", Edges.streetOf("n9h95h90"), 0, 0, 5);
        dueShare("the first, as much as the last can", Edges.streetOf("n9h95m90"), 0, 3, 2);
        dueShare("a MAYOR ahead of all", Edges.streetOf("n9y00h05"), 9, 2, 3);
        dueShare("nothing OWED", Edges.streetOf("n9h00c00y00"), 0, 0, 0, 0);
        dueShare("one is late by itself", Edges.streetOf("n9m05h00"), 13, 2, 3);
        dueShare("all of one", allOwedByTheFirst("n9", "h0"), 405, 9, 9, 9, 9, 9);
        ColdShares anew = Edges.streetOf("n99h05h00");
        anew.row(2, 40);
        dueShare("anew, of 40 come 2", anew, 7, 2, 3);
        ColdShares did = Edges.streetOf("n9h05h04");
        did.bear(0, 1);
        dueShare("who did BEAR tonight bears none", did, 64, 0, 8);
        ColdShares late = Edges.streetOf("n9h00h00");
        late.night();
        dueShare("CANDLEMAS, nothing OWED", late, 0, 0, 0);
    }

    // ---- 30

    private static void savesNumbers() {
        for (int set : new int[] {-1, 16, 17, 31, 32, MIN, MAX}) {
            Edges.refused("30 BAD: no such set: " + set, Edges::lived, x -> x.saves(set), BAD);
        }
        Edges.asks("30 the empty set", Edges::lived, x -> x.saves(0), 0);
        Edges.Made five = () -> Edges.streetOf("n9h05h00h00h00h05");
        Edges.asks("30 all five", five, x -> x.saves(31), 50 - 20);
        Edges.refused("30 BAD: a sixth", five, x -> x.saves(32), BAD);
        Edges.asks("30 no HOUSES, the empty set", ColdShares::new, x -> x.saves(0), 0);
        Edges.refused("30 BAD: no HOUSES", ColdShares::new, x -> x.saves(1), BAD);
        Edges.refused("30 BAD: no HOUSES, below", ColdShares::new, x -> x.saves(-1), BAD);
        Edges.asks("30 the only one", () -> Edges.streetOf("n9h05"), x -> x.saves(1), 0);
        Edges.refused("30 BAD: a second", () -> Edges.streetOf("n9h05"), x -> x.saves(2), BAD);
    }

    private static void savesNone() {
        Edges.Made made = () -> Edges.streetOf("n9h05h00m03");
        Edges.asks("30 NONE: one of them has no PLAN, alone", made, x -> x.saves(4), NONE);
        Edges.asks("30 NONE: though sharing would do", made, x -> x.saves(6), NONE);
        Edges.asks("30 NONE: one of all", made, x -> x.saves(7), NONE);
        Edges.asks("30 those without it", made, x -> x.saves(3), 12);
        Edges.asks("30 the empty set at CANDLEMAS", () -> Edges.candlemasWithDeeds(1), x -> x.saves(0), 0);
        Edges.asks("30 NONE: CANDLEMAS", () -> Edges.candlemasWithDeeds(1), x -> x.saves(1), NONE);
        Edges.asks("30 just what a MISER can", () -> Edges.streetOf("n9h05h00m02"), x -> x.saves(7), 29 - 17);
    }

    private static void savesValues() {
        Edges.Made made = () -> Edges.streetOf("n9h05h05h00");
        Edges.asks("30 one by itself", made, x -> x.saves(1), 0);
        Edges.asks("30 two alike", made, x -> x.saves(3), 0);
        Edges.asks("30 who OWES and who does not", made, x -> x.saves(5), 25 - 13);
        Edges.asks("30 the others", made, x -> x.saves(6), 25 - 13);
        Edges.asks("30 all", made, x -> x.saves(7), 50 - 34);
        ColdShares x = made.make();
        x.sell(0, 2, 2);
        Edges.due("30 behind a sale", x.saves(5), 0);
    }

    // ---- 31

    private static void partEdges() {
        for (int h : NO_HOUSES_OF_4) {
            Edges.refused("31 BAD: HOUSE " + h, Edges::lived, x -> x.part(h), BAD);
        }
        Edges.refused("31 BAD: no HOUSES", ColdShares::new, x -> x.part(0), BAD);
        Edges.refused("31 NONE: it has no PLAN", Edges::lived, x -> x.part(1), NONE);
        Edges.refused("31 NONE: another one has none", Edges::lived, x -> x.part(3), NONE);
        for (int h = 0; h < 3; h++) {
            int house = h;
            Edges.refused("31 NONE: the first has no PLAN, and nothing HURTS",
                () -> Edges.streetOf("n9m03h00y01"), x -> x.part(house), NONE);
            Edges.refused("31 NONE: the last has no PLAN, and nothing HURTS",
                () -> Edges.streetOf("n9h00y01m03"), x -> x.part(house), NONE);
        }
        Edges.refused("31 BAD ahead of NONE", Edges::lived, x -> x.part(4), BAD);
        ColdShares one = Edges.streetOf("n9h05");
        Edges.chance("31 one HOUSE: 0 by 1", one, one.part(0), 0, 1);
        ColdShares two = Edges.streetOf("n9p05h00");
        // 50 alone; of 5 the POOR one bears 2, the other one 3: 17.
        Edges.chance("31 two, by halves", two, two.part(0), 33, 2);
        Edges.chance("31 two, the other half", two, two.part(1), 33, 2);
        ColdShares three = Edges.streetOf("n9h09h00h00");
        // 81 alone; two save 40, three 54, those that OWE none nothing.
        Edges.chance("31 in lowest terms", three, three.part(0), (40 + 40 + 2 * 54) / 2, 6 / 2);
        Edges.chance("31 in lowest terms, the last", three, three.part(2), (40 + 2 * (54 - 40)) / 2, 6 / 2);
        ColdShares whole = Edges.streetOf("n9h05h00h02");
        // Alone 25, 0, 4. By twos 12, 4, 2 are saved, by all 12.
        Edges.chance("31 a whole number by 1", whole, whole.part(0), (12 + 4 + 2 * (12 - 2)) / 6, 1);
        Edges.chance("31 a whole number by 1, the last", whole, whole.part(2), (4 + 2) / 6, 1);
        Edges.due("31 asked() is left", whole.asked(), 0);
        ColdShares five = Edges.streetOf("n9h00h00h00h00h09");
        // None, one, .. four come ahead of it alike often; then so much of 81 is saved.
        Edges.chance("31 five, the last", five, five.part(4), 0 + (81 - 41) + (81 - 27) + (81 - 21) + (81 - 17), 5);
        ColdShares nobody = Edges.streetOf("n9y02y00h00");
        nobody.risk(2);
        Edges.chance("31 nothing is saved: 0 by 1", nobody, nobody.part(0), 0, 1);
    }

    /** Five unlike HOUSES: what is asked of one is told of that one. */
    private static void eachHouse() {
        Edges.Made made = () -> Edges.streetOf("n35 h06 s18 p25 m33 c17");
        int[] hurts = {25, 4, 18, 4, 50};
        int[] most = {8, 8, 8, 4, 8};
        int[] least = {18, 4, 2, 0, 50};
        int[][] plans = {{3, 3}, {3, 5}, {2, 3}, {1, 2}, {3, 4}};
        int[] price = {7, NONE, 2, 0, 18};
        int[] less = {5, 3, 2, 0, 14};
        for (int h = 0; h < 5; h++) {
            int house = h;
            Edges.asks("22 HOUSE " + h + " of five", made, x -> x.hurt(house, 5), hurts[h]);
            Edges.asks("23 HOUSE " + h + " of five", made, x -> x.most(house), most[h]);
            ColdShares x = made.make();
            Edges.due("24 HOUSE " + h + " of five", x.least(h, 1), least[h]);
            Edges.places("24 HOUSE " + h + " of five", x, 1, plans[h]);
            Edges.asks("25 HOUSE " + h + " of five", made, y -> y.price(house), price[h]);
            for (int k = 0; k < 5; k++) {
                int other = k;
                int want = h == k ? BAD : k == 1 ? NONE : 100 + less[h] - price[k];
                Edges.asks("27 HOUSE " + h + " to HOUSE " + k + " of five", made, y -> y.gain(house, other), want);
            }
        }
        dueLate("all five", made.make(), 0, 74);
        dueSales("the last of five sells", made.make(), 8, 6 * 4 + 3);
    }
}
