/** Promises 32 to 42, and the Terms (lowest terms, sets by bits, FINDINGS): each sentence that names an edge. */
public final class EdgesOfChancesTest {
    private static final int BAD = Edges.BAD, FULL = Edges.FULL, STATE = Edges.STATE, NONE = Edges.NONE;
    private static final int NOTHING = Edges.NOTHING, BEYOND = Edges.BEYOND, UNLIKE = Edges.UNLIKE;
    private static final int NOUGHT = Edges.NOUGHT, SIZE = Edges.SIZE;
    private static final int MIN = Edges.MIN, MAX = Edges.MAX;
    private static final int[] NO_HOUSES_OF_4 = {-1, 4, 5, MIN, MAX};

    private EdgesOfChancesTest() {
    }

    public static void main(String[] args) {
        constants();
        iceNumbers();
        iceWays();
        iceSure();
        iceOfALaterNight();
        oddsNumbers();
        oddsEdges();
        oddsByTonight();
        riskEdges();
        chancesOfEachHouse();
        lotsNumbers();
        lotsStates();
        lotsFull();
        lotsNumbersDrawn();
        lotsTillCandlemas();
        lotsOfEachHouse();
        askedIsLeft();
        askedIsTold();
        upperAndLower();
        countNumbers();
        countLeastAndMost();
        findingsEach();
        findingsNumbers();
        digestOfNone();
        digestOfAll();
        digestTellsApart();
        Edges.end();
    }

    // ---- Terms

    private static void constants() {
        Edges.due("BAD", ColdShares.BAD, -1);
        Edges.due("FULL", ColdShares.FULL, -2);
        Edges.due("FINDING", ColdShares.FINDING, -3);
        Edges.due("STATE", ColdShares.STATE, -4);
        Edges.due("SPENT", ColdShares.SPENT, -6);
        Edges.due("NONE", ColdShares.NONE, -9);
    }

    // ---- 32

    private static void iceNumbers() {
        for (int night : new int[] {-1, 3, 7, 8, MIN, MAX}) {
            Edges.refused("32 BAD: NIGHT " + night + " of 3", Edges::lived, x -> x.ice(night, 0), BAD);
        }
        for (int sum : new int[] {-1, 46, MIN, MAX}) {
            Edges.refused("32 BAD: degrees " + sum, Edges::lived, x -> x.ice(0, sum), BAD);
        }
        Edges.refused("32 BAD: no HOUSES", ColdShares::new, x -> x.ice(0, 0), BAD);
        Edges.taken("32 0 degrees", Edges::lived, x -> x.ice(0, 0), 1);
        Edges.taken("32 45 degrees", Edges::lived, x -> x.ice(2, 45), 1);
        Edges.taken("32 at CANDLEMAS", () -> Edges.candlemasWithDeeds(1), x -> x.ice(0, 3), 1);
        Edges.refused("32 BAD: CANDLEMAS is no NIGHT", () -> Edges.candlemasWithDeeds(1), x -> x.ice(1, 0), BAD);
    }

    private static void dueIce(String sentence, String signs, int sum, long ways, int sure) {
        ColdShares x = Edges.streetOf(signs);
        x.row(0, 1);
        x.lay(0, 0, 77);
        x.at(0, 0);
        x.risk(0);
        Edges.chance("32 " + sentence, x, x.ice(0, sum), ways, 1);
        Edges.due("32 " + sentence + ", asked()", x.asked(), sure);
    }

    private static void iceWays() {
        dueIce("nothing: one way, nobody is sure", "n9h00h00", 0, 1, 0);
        dueIce("no COLD, nothing", "n0h00h00", 0, 1, 0);
        dueIce("no COLD, something: 0 ways", "n0h00h00", 1, 0, 0);
        dueIce("as much as they can", "n9h00h00", 18, 1, 3);
        dueIce("one more: 0 ways, 0: there is none", "n9h00h00", 19, 0, 0);
        dueIce("45 of five", "n9h00h00h00h00h00", 45, 1, 31);
        dueIce("44 of five", "n9h00h00h00h00h00", 44, 5, 31);
        dueIce("45 of four", "n9h00h00h00h00", 45, 0, 0);
        dueIce("a MISER no more than 2", "n9m00", 2, 1, 1);
        dueIce("a MISER: 3", "n9m00", 3, 0, 0);
        dueIce("a MAYOR: 3", "n9y00", 3, 0, 0);
        dueIce("a MISER at COLD 1", "n1m00", 2, 0, 0);
        dueIce("what it OWES aside", "n5h00", 5, 1, 1);
        ColdShares did = Edges.lived();
        Edges.chance("32 who did BEAR is not looked at", did, did.ice(1, 23), 1, 1);
        Edges.due("32 all of them", did.asked(), 15);
        Edges.chance("32 another NIGHT", did, did.ice(0, 14), 1, 1);
        Edges.chance("32 the last NIGHT", did, did.ice(2, 11), 1, 1);
        Edges.chance("32 the last NIGHT, one more", did, did.ice(2, 12), 0, 1);
    }

    private static void iceSure() {
        dueIce("the others could just have BORNE all", "n5h00h00m00", 7, 4 + 5 + 6, 0);
        dueIce("one more than the others could: sure", "n5h00h00m00", 8, 3 + 4 + 5, 3);
        dueIce("a MISER is sure last", "n5h00h00m00", 10, 1 + 2 + 3, 3);
        dueIce("a MISER is sure", "n5h00h00m00", 11, 2 + 1, 7);
        dueIce("one HOUSE that BORE", "n5h00", 1, 1, 1);
        dueIce("a MISER ahead of a HOUSE", "n5m00h00", 5, 3, 2);
        dueIce("a MISER ahead of a HOUSE, all", "n5m00h00", 7, 1, 3);
        dueIce("a MISER ahead of a HOUSE, one more", "n5m00h00", 8, 0, 0);
        dueIce("the first bit, the last bit", "n5h00y00y00y00h00", 12, waysOfTwoAndThree(12), 17);
    }

    private static void iceOfALaterNight() {
        ColdShares x = Edges.streetOf("n952h00h00");
        Edges.chance("32 a later NIGHT, less COLD", x, x.ice(1, 5), 6, 1);
        Edges.due("32 a later NIGHT: the others could", x.asked(), 0);
        Edges.chance("32 a later NIGHT, one more", x, x.ice(1, 6), 5, 1);
        Edges.due("32 a later NIGHT: the others could not", x.asked(), 3);
        Edges.chance("32 the last NIGHT", x, x.ice(2, 5), 0, 1);
        Edges.due("32 the last NIGHT: there is none", x.asked(), 0);
        x.night();
        Edges.chance("32 a NIGHT gone by", x, x.ice(0, 18), 1, 1);
    }

    // Two up to 5 and three up to 2, together so much.
    private static long waysOfTwoAndThree(int sum) {
        long ways = 0;
        for (int a = 0; a <= 5; a++) {
            for (int b = 0; b <= 5; b++) {
                for (int c = 0; c < 27; c++) {
                    ways += a + b + c % 3 + c / 3 % 3 + c / 9 == sum ? 1 : 0;
                }
            }
        }
        return ways;
    }

    // ---- 33

    private static void oddsNumbers() {
        for (int h : NO_HOUSES_OF_4) {
            Edges.refused("33 BAD: HOUSE " + h, Edges::lived, x -> x.odds(h), BAD);
        }
        Edges.refused("33 BAD: no HOUSES", ColdShares::new, x -> x.odds(0), BAD);
    }

    private static void dueOdds(String sentence, String signs, long upper, long lower) {
        ColdShares x = Edges.streetOf(signs);
        Edges.chance("33 " + sentence, x, x.odds(0), upper, lower);
    }

    private static void oddsEdges() {
        dueOdds("it OWES none: 1 by 1", "n00h00", 1, 1);
        dueOdds("it can't: 0 by 1", "n0h01", 0, 1);
        dueOdds("one NIGHT, just so", "n5h05", 1, 1);
        dueOdds("one NIGHT, one less", "n5h04", 1, 1);
        dueOdds("one NIGHT, one more", "n5h06", 0, 1);
        dueOdds("tonight has more COLD than it OWES", "n90h01", 1, 1);
        dueOdds("tonight has COLD, and it OWES none", "n99h00", 1, 1);
        dueOdds("two NIGHTS, the COLD told of the other one is nothing", "n50h06", 9, 10);
        dueOdds("two NIGHTS, whatever it is", "n59h06", 9, 10);
        dueOdds("two NIGHTS, 9 more", "n09h09", 1, 10);
        dueOdds("in lowest terms", "n09h05", 1, 2);
        dueOdds("three NIGHTS", "n099h01", 99, 100);
        dueOdds("a MISER", "n09m01", 9, 10);
        dueOdds("a MISER, 2", "n09m02", 4, 5);
        dueOdds("a MISER, 3", "n09m03", 0, 1);
        dueOdds("a MAYOR, 2 tonight", "n99y04", 4, 5);
        dueOdds("eight NIGHTS", "n00000000h01", 9999999, 10000000);
    }

    private static void oddsByTonight() {
        ColdShares x = Edges.streetOf("n55h06h09");
        x.bear(0, 1);
        Edges.chance("33 nothing tonight, if it did", x, x.odds(0), 1, 2);
        x.night();
        Edges.chance("33 the last NIGHT is this one", x, x.odds(0), 1, 1);
        Edges.chance("33 the last NIGHT, too much", x, x.odds(1), 0, 1);
        x.bear(0, 4);
        Edges.chance("33 the last NIGHT, it did", x, x.odds(0), 0, 1);
        x.night();
        Edges.chance("33 CANDLEMAS, it OWES", x, x.odds(0), 0, 1);
        x.sell(0, 1, 1);
        Edges.chance("33 CANDLEMAS, it OWES none", x, x.odds(0), 1, 1);
        Edges.due("33 asked() is left", x.asked(), 0);
        ColdShares all = Edges.streetOf("n00000000h09h09h09h09h09");
        for (int h = 1; h < 5; h++) {
            all.sell(h, 0, 9);
        }
        Edges.chance("33 all of five in seven NIGHTS", all, all.odds(0), waysOfSevenFrom(45) / 5, 10000000 / 5);
    }

    // Of seven figures, in how many of 10,000,000 ways they are so much together or more.
    private static long waysOfSevenFrom(int least) {
        long[] ways = {1};
        for (int night = 0; night < 7; night++) {
            long[] more = new long[ways.length + 9];
            for (int sum = 0; sum < ways.length; sum++) {
                for (int c = 0; c <= 9; c++) {
                    more[sum + c] += ways[sum];
                }
            }
            ways = more;
        }
        long all = 0;
        for (int sum = least; sum < ways.length; sum++) {
            all += ways[sum];
        }
        return all;
    }

    // ---- 34

    private static void dueRisk(String sentence, String house, long upper, long lower) {
        ColdShares x = Edges.streetOf("n0" + house);
        Edges.chance("34 " + sentence, x, x.risk(0), upper, lower);
    }

    private static void riskEdges() {
        for (int h : NO_HOUSES_OF_4) {
            Edges.refused("34 BAD: HOUSE " + h, Edges::lived, x -> x.risk(h), BAD);
        }
        Edges.refused("34 BAD: no HOUSES", ColdShares::new, x -> x.risk(0), BAD);
        dueRisk("0 WARM, what it OWES aside", "h00", 9, 10);
        dueRisk("4 WARM", "h49", 1, 2);
        dueRisk("8 WARM", "h80", 1, 10);
        dueRisk("9 WARM: 0 by 1", "h90", 0, 1);
        dueRisk("a STOUT one, 6 WARM", "s60", 1, 10);
        dueRisk("a STOUT one, 7 WARM", "s70", 0, 1);
        dueRisk("a POOR one is as often HURT", "p00", 9, 10);
        dueRisk("a MISER, 0 WARM", "m00", 9, 10);
        dueRisk("a MISER, 1 WARM", "m10", 4, 5);
        dueRisk("a MISER, 2 WARM", "m20", 0, 1);
        dueRisk("a MAYOR", "y09", 0, 1);
        dueRisk("CHILDREN, 0 WARM", "c00", 9, 10);
        dueRisk("CHILDREN, 1 WARM", "c10", 9, 10);
        dueRisk("CHILDREN, 2 WARM", "c20", 4, 5);
        dueRisk("CHILDREN, 9 WARM", "c90", 1, 10);
        ColdShares late = Edges.candlemasWithDeeds(1);
        Edges.chance("34 CANDLEMAS", late, late.risk(0), 7, 10);
    }

    /** Five unlike HOUSES: what is asked of one is told of that one. */
    private static void chancesOfEachHouse() {
        ColdShares x = Edges.streetOf("n35 m33 s18 p25 h06 c17");
        int[][] odds = {{9, 10}, {1, 2}, {4, 5}, {7, 10}, {3, 5}};
        int[][] risks = {{0, 1}, {3, 5}, {7, 10}, {9, 10}, {9, 10}};
        for (int h = 0; h < 5; h++) {
            Edges.chance("33 HOUSE " + h + " of five", x, x.odds(h), odds[h][0], odds[h][1]);
            Edges.chance("34 HOUSE " + h + " of five", x, x.risk(h), risks[h][0], risks[h][1]);
        }
        x.bear(0, 1);
        Edges.chance("33 the first did BEAR, the last did not", x, x.odds(4), 3, 5);
        Edges.chance("33 the first did BEAR", x, x.odds(0), 4, 5);
        x.undo(0);
        x.bear(4, 1);
        Edges.chance("33 the last did BEAR", x, x.odds(4), 2, 5);
        Edges.chance("33 the last did BEAR, the first did not", x, x.odds(0), 9, 10);
    }

    // ---- 35

    private static void lotsNumbers() {
        for (int n : new int[] {0, 9, -1, MIN, MAX}) {
            Edges.refused("35 BAD: NIGHTS " + n, Edges::lived, x -> x.lots(n, 1), BAD);
            Edges.refused("35 BAD ahead of STATE: NIGHTS " + n, ColdShares::new, x -> x.lots(n, 1), BAD);
            Edges.refused("35 BAD ahead of FULL: NIGHTS " + n, () -> Edges.withDeeds(60), x -> x.lots(n, 1), BAD);
        }
        for (int seed : new int[] {0, -1, MIN, MAX}) {
            Edges.refused("35 BAD: seed " + seed, Edges::lived, x -> x.lots(1, seed), BAD);
            Edges.refused("35 BAD ahead of STATE: seed " + seed, ColdShares::new, x -> x.lots(1, seed), BAD);
            Edges.refused("35 BAD ahead of FULL: seed " + seed, () -> Edges.withDeeds(60), x -> x.lots(1, seed), BAD);
        }
        Edges.passes("35 1 NIGHT", Edges::lived, x -> x.lots(1, 5));
        Edges.passes("35 8 NIGHTS", Edges::lived, x -> x.lots(8, 5));
        Edges.passes("35 seed 1", Edges::lived, x -> x.lots(1, 1));
        Edges.passes("35 seed 2147483646", Edges::lived, x -> x.lots(1, 2147483646));
    }

    private static void lotsStates() {
        Edges.refused("35 STATE: no HOUSES", ColdShares::new, x -> x.lots(1, 1), STATE);
        Edges.refused("35 STATE: it is CANDLEMAS", () -> Edges.candlemasWithDeeds(1), x -> x.lots(1, 1), STATE);
        Edges.refused("35 FULL last", () -> Edges.candlemasWithDeeds(60), x -> x.lots(8, 1), STATE);
    }

    private static void lotsFull() {
        for (int n = 1; n <= 8; n++) {
            int nights = n;
            Edges.passes("35 with 6 times " + n + " more there would be 60", () -> Edges.withDeeds(60 - 6 * nights),
                x -> x.lots(nights, 1));
            Edges.refused("35 FULL: with 6 times " + n + " more there would be 61", () -> Edges.withDeeds(61 - 6 * nights),
                x -> x.lots(nights, 1), FULL);
        }
        Edges.refused("35 FULL: 60 DEEDS", () -> Edges.withDeeds(60), x -> x.lots(1, 1), FULL);
        Edges.Made last = () -> {
            ColdShares x = Edges.withDeeds(6);
            for (int night = 0; night < 7; night++) {
                x.night();
            }
            return x;
        };
        Edges.passes("35 13 DEEDS, 7 NIGHTS more, one is left", last, x -> x.lots(7, 1));
        Edges.refused("35 FULL: by n, though one NIGHT is left", last, x -> x.lots(8, 1), FULL);
    }

    /** What the numbers of a seed are, by 8 and cut. */
    private static long[] numbersBy8(long seed, int n) {
        long[] numbers = new long[n];
        java.math.BigInteger number = java.math.BigInteger.valueOf(seed);
        for (int i = 0; i < n; i++) {
            number = number.multiply(java.math.BigInteger.valueOf(48271)).mod(java.math.BigInteger.valueOf(2147483647));
            numbers[i] = number.longValue() / 8;
        }
        return numbers;
    }

    private static void lotsNumbersDrawn() {
        for (int seed : new int[] {1, 2, 77, 123456789, 2147483646}) {
            long[] numbers = numbersBy8(seed, 4);
            ColdShares x = Edges.streetOf("n9 h99 h95 h90 m99 h99");
            x.bear(1, 5);
            Edges.due("35 nothing HURTS", x.lots(1, seed), 0);
            Edges.told("35 the first number", x, x.house(0, 2), (int) (9 - numbers[0] % 10));
            Edges.told("35 who did BEAR has no number", x, x.house(1, 2), 0);
            Edges.told("35 who OWES none has one, and BEARS none", x, x.house(2, 2), 0);
            Edges.told("35 modulo 1 more than a MISER can", x, x.house(3, 2), (int) (9 - numbers[2] % 3));
            Edges.told("35 the fourth number", x, x.house(4, 2), (int) (9 - numbers[3] % 10));
            int borne = 0;
            for (int h : new int[] {0, 3, 4}) {
                x.house(h, 2);
                borne += x.asked() < 9 ? 1 : 0;
            }
            Edges.due("35 nothing BORNE is no DEED", x.count(3), 1 + borne + 1);
        }
    }

    private static void lotsTillCandlemas() {
        ColdShares x = Edges.streetOf("n99 h09");
        long[] numbers = numbersBy8(5, 2);
        int first = (int) (numbers[0] % 10);
        int second = (int) (numbers[1] % (10 - first));
        Edges.due("35 till CANDLEMAS: what all that HURTS", x.lots(8, 5), first * first + second * second);
        Edges.due("35 CANDLEMAS", x.count(2), 2);
        Edges.due("35 what was HURT", x.count(5), first * first + second * second);
        Edges.due("35 DEEDS", x.count(3), 2 + (first > 0 ? 1 : 0) + (second > 0 ? 1 : 0));
        x.undo(0);
        Edges.due("35 all DEEDS are undone", x.count(4), 9);
        Edges.due("35 one NIGHT alone", x.lots(1, 5), first * first);
        Edges.due("35 one NIGHT alone goes by", x.count(2), 1);
        ColdShares none = Edges.streetOf("n00000000 h09");
        Edges.due("35 no COLD", none.lots(8, 5), 0);
        Edges.due("35 no COLD: the NIGHTS are all DEEDS", none.count(3), 8);
        ColdShares did = Edges.streetOf("n91 h09");
        did.bear(0, 2);
        Edges.due("35 what it HURT ahead of them is none of it", did.lots(1, 5), 0);
    }

    /** What HURTS the others is told, too; who did BEAR in the first NIGHT has numbers in the next ones. */
    private static void lotsOfEachHouse() {
        long[] numbers = numbersBy8(4711, 5);
        ColdShares x = Edges.streetOf("n99 h99 p09 c19");
        x.bear(1, 4);
        int warm = (int) (numbers[0] % 10);
        int last = (int) (numbers[1] % 10);
        int warmNext = (int) (numbers[2] % (10 - warm));
        int poorNext = (int) (numbers[3] % 6);
        int lastNext = (int) (numbers[4] % (10 - last));
        int hurts = 2 * (last * last + poorNext * poorNext + lastNext * lastNext);
        Edges.due("35 what all that HURTS", x.lots(2, 4711), hurts);
        Edges.told("35 the first HOUSE", x, x.house(0, 2), 9 - warm - warmNext);
        Edges.told("35 who did BEAR in the first NIGHT", x, x.house(1, 2), 5 - poorNext);
        Edges.told("35 the last HOUSE", x, x.house(2, 2), 9 - last - lastNext);
        Edges.due("35 CANDLEMAS", x.count(2), 2);
        Edges.due("35 all that was HURT", x.count(5), 32 + hurts);
    }

    // ---- 36

    private static void leaves(String sentence, Edges.Call call) {
        ColdShares x = Edges.lived();
        call.on(x);
        Edges.due("36 left by " + sentence, x.asked(), -8);
    }

    private static void askedIsLeft() {
        leaves("row()", x -> x.row(0, 4));
        leaves("tear()", x -> x.tear(0));
        leaves("copy()", x -> x.copy(0, 0, 2, 0, 3));
        leaves("text()", x -> x.text(3, 4));
        leaves("put()", x -> x.put(2, 0, 4));
        leaves("fault()", x -> x.fault(0));
        leaves("street()", x -> x.street(0));
        leaves("cold()", x -> x.cold(0));
        leaves("mark()", x -> x.mark(3, 1));
        leaves("bear()", x -> x.bear(1, 1));
        leaves("sell()", x -> x.sell(1, 2, 1));
        leaves("night()", ColdShares::night);
        leaves("undo()", x -> x.undo(0));
        leaves("undo(), wind()", x -> x.undo(0) + x.wind(0, 1));
        leaves("keep()", x -> x.keep(1));
        leaves("on()", x -> x.on(2));
        leaves("hurt()", x -> x.hurt(0, 9));
        leaves("most()", x -> x.most(0));
        leaves("least()", x -> x.least(0, 3));
        leaves("price()", x -> x.price(0));
        leaves("gain()", x -> x.gain(0, 1));
        leaves("share()", x -> x.share(3));
        leaves("saves()", x -> x.saves(3));
        leaves("part()", x -> x.part(0));
        leaves("odds()", x -> x.odds(0));
        leaves("risk()", x -> x.risk(0));
        leaves("lots()", x -> x.lots(1, 1));
        leaves("upper(), lower()", x -> x.upper() + x.lower());
        leaves("count()", x -> x.count(5));
        leaves("finding(), findings()", x -> x.finding() + x.findings(1));
        leaves("digest()", ColdShares::digest);
    }

    private static void askedIsTold() {
        ColdShares x = Edges.lived();
        Edges.told("36 lay()", x, x.lay(0, 0, 5), 7);
        Edges.told("36 at()", x, x.at(0, 2), 9);
        Edges.told("36 mean()", x, x.mean(0), 2);
        Edges.told("36 house()", x, x.house(0, 4), 4);
        x.late();
        Edges.due("36 late()", x.asked(), 1 + 26);
        x.sales();
        Edges.due("36 sales()", x.asked(), 15);
        x.ice(0, 14);
        Edges.due("36 ice()", x.asked(), 15);
        Edges.due("36 asked twice", x.asked(), 15);
    }

    // ---- 37, 38

    private static void upperAndLower() {
        ColdShares x = new ColdShares();
        Edges.due("37 0 before", x.upper(), 0);
        Edges.due("38 1 before", x.lower(), 1);
        x = Edges.streetOf("n9h80h09");
        x.risk(0);
        Edges.due("37 told last: risk()", x.upper(), 1);
        Edges.due("38 told last: risk()", x.lower(), 10);
        x.ice(0, 1);
        Edges.due("37 told last: ice()", x.upper(), 2);
        Edges.due("38 told last: ice(), lower() is 1", x.lower(), 1);
        x.part(1);
        Edges.due("37 told last: part()", x.upper(), 40);
        Edges.due("38 told last: part()", x.lower(), 1);
        x.odds(1);
        Edges.due("37 told last: odds()", x.upper(), 1);
        Edges.due("38 told last: odds()", x.lower(), 1);
        x.risk(0);
        x.late();
        x.sales();
        x.share(0);
        x.house(0, 0);
        x.mean(0);
        x.street(0);
        Edges.due("37 left by all others", x.upper(), 1);
        Edges.due("38 left by all others", x.lower(), 10);
    }

    // ---- 39

    private static void countNumbers() {
        for (int what : new int[] {-1, 10, 11, MIN, MAX}) {
            Edges.refused("39 BAD: what " + what, Edges::lived, x -> x.count(what), BAD);
        }
        int[] lived = {4, 3, 1, 4, 19, 13, 1, 3, 3, 2};
        for (int what = 0; what < 10; what++) {
            int asked = what;
            Edges.asks("39 count(" + what + ")", Edges::lived, x -> x.count(asked), lived[what]);
        }
    }

    private static void countLeastAndMost() {
        ColdShares x = Edges.streetOf("n99999999 p09 c09 p09 c09 c09");
        for (int r = 0; r < 6; r++) {
            x.row(r, 0);
        }
        for (int t = 1; t < 4; t++) {
            x.text(t, 0);
        }
        int[] most = {5, 8, 0, 0, 45, 0, 5, 6, 4, 0};
        for (int what = 0; what < 10; what++) {
            Edges.due("39 the most, count(" + what + ")", x.count(what), most[what]);
        }
        for (int h = 0; h < 5; h++) {
            x.bear(h, 9);
        }
        for (int k = 0; k < 3; k++) {
            x.keep(k);
        }
        for (int night = 0; night < 8; night++) {
            x.night();
        }
        int[] then = {5, 8, 8, 13, 0, 5 * 162, 5, 6, 4, 3};
        for (int what = 0; what < 10; what++) {
            Edges.due("39 behind all, count(" + what + ")", x.count(what), then[what]);
        }
        for (int r = 0; r < 6; r++) {
            x.tear(r);
        }
        Edges.due("39 no ROWS again", x.count(7), 0);
        ColdShares none = Edges.streetOf("n9 h01 s01 m01 y01");
        Edges.due("39 no POOR ones", none.count(6), 0);
        Edges.due("39 CANDLEMAS", Edges.candlemasWithDeeds(1).count(2), 1);
        Edges.due("39 60 DEEDS", Edges.withDeeds(60).count(3), 60);
    }

    // ---- 40, 41

    private static void dueFinding(String sentence, ColdShares x, long got, int finding, int often) {
        Edges.due("40 " + sentence, got, Edges.FINDING);
        Edges.due("40 " + sentence + ", finding()", x.finding(), finding);
        Edges.due("41 " + sentence + ", findings()", x.findings(finding), often);
    }

    private static void findingsEach() {
        ColdShares x = new ColdShares();
        Edges.due("40 0 before any", x.finding(), 0);
        dueFinding("NOTHING: a ROW that is missing", x, x.at(0, 0), NOTHING, 1);
        dueFinding("NOTHING: a TEXT that is missing", x, x.fault(0), NOTHING, 2);
        dueFinding("NOTHING: a kept STREET that is missing", x, x.on(0), NOTHING, 3);
        x.row(0, 1);
        dueFinding("BEYOND: a place that there is not", x, x.at(0, 1), BEYOND, 1);
        Edges.write(x, 0, "n9h09");
        x.street(0);
        dueFinding("UNLIKE: a HOUSE of another KIND", x, x.mark(0, 1), UNLIKE, 1);
        x.row(0, 0);
        dueFinding("NOUGHT: shared among none", x, x.mean(0), NOUGHT, 1);
        dueFinding("SIZE: fewer than none", x, x.row(0, -1), SIZE, 1);
        dueFinding("SIZE: of a TEXT", x, x.text(0, -1), SIZE, 2);
        dueFinding("SIZE: of a copy", x, x.copy(0, 0, 0, 0, -1), SIZE, 3);
        x.mark(0, 0);
        Edges.due("40 left by BAD", x.finding(), SIZE);
        x.bear(0, 10);
        Edges.due("40 left by STATE", x.finding(), SIZE);
        x.night();
        x.least(0, 0);
        Edges.due("40 left by NONE", x.finding(), SIZE);
        x.street(0);
        x.row(0, 1);
        Edges.due("40 left by what is taken", x.finding(), SIZE);
        int[] often = {3, 1, 1, 1, 3};
        for (int f = 1; f <= 5; f++) {
            Edges.due("41 how often " + f, x.findings(f), often[f - 1]);
        }
    }

    private static void findingsNumbers() {
        for (int f : new int[] {0, 6, -1, MIN, MAX}) {
            Edges.refused("41 BAD: FINDING " + f, Edges::lived, x -> x.findings(f), BAD);
        }
        Edges.taken("41 the first", Edges::lived, x -> x.findings(1), 0);
        Edges.taken("41 the last", Edges::lived, x -> x.findings(5), 0);
        ColdShares x = new ColdShares();
        for (int i = 0; i < 400; i++) {
            x.tear(0);
        }
        Edges.due("41 often", x.findings(1), 400);
    }

    // ---- 42

    private static final class Sum {
        long h = 17;

        Sum on(long... values) {
            for (long v : values) {
                h = 31 * h + v;
            }
            return this;
        }
    }

    private static void digestOfNone() {
        Sum none = new Sum().on(new long[10]).on(-1, -1, -1).on(-1, -1, -1, -1, -1, -1).on(-1, -1, -1, -1);
        Edges.due("42 all missing", new ColdShares().digest(), none.h);
        ColdShares empty = new ColdShares();
        empty.row(5, 0);
        empty.text(3, 0);
        Sum sum = new Sum().on(0, 0, 0, 0, 0, 0, 0, 1, 1, 0).on(-1, -1, -1).on(-1, -1, -1, -1, -1, 0).on(-1, -1, -1, 0);
        Edges.due("42 an empty one is 0, a missing one -1", empty.digest(), sum.h);
    }

    private static void digestOfAll() {
        ColdShares x = Edges.streetOf("n12345678 h19 s29 p39 m49 c59");
        for (int r = 0; r < 6; r++) {
            x.row(r, 40);
        }
        x.lay(0, 0, MIN);
        x.lay(5, 39, MAX);
        x.text(0, 60);
        x.text(3, 60);
        x.put(3, 59, 255);
        x.keep(0);
        x.bear(0, 1);
        x.sell(1, 4, 9);
        x.keep(2);
        Sum sum = new Sum().on(5, 8, 0, 2, 44, 0, 2, 6, 2, 2).on(1, 2, 3, 4, 5, 6, 7, 8);
        sum.on(0, 1, 8, 0, 1, 0).on(1, 2, 0, 0, NONE, 0).on(2, 3, 9, 0, NONE, 1).on(3, 4, 9, 0, NONE, 1).on(5, 5, 18, 0, NONE, 1);
        sum.on(0, -1, 2);
        for (int r = 0; r < 6; r++) {
            long[] places = new long[40];
            places[0] = r == 0 ? MIN : 0;
            places[39] = r == 5 ? MAX : 0;
            sum.on(40).on(places);
        }
        long[] blanks = new long[60];
        java.util.Arrays.fill(blanks, 32);
        sum.on(60).on(blanks).on(-1).on(-1);
        blanks[59] = -1;
        sum.on(60).on(blanks);
        Edges.due("42 all, beyond what a long holds", x.digest(), sum.h);
        Edges.due("42 asked twice", x.digest(), sum.h);
    }

    private static void digestTellsApart() {
        long lived = Edges.lived().digest();
        Edges.due("42 the same calls, the same digest", Edges.lived().digest(), lived);
        Edges.Call[] changes = {x -> x.row(3, 0), x -> x.lay(0, 0, 8), x -> x.tear(1), x -> x.text(3, 0), x -> x.put(2, 59, 0),
            x -> x.bear(1, 1), x -> x.sell(0, 1, 1), ColdShares::night, x -> x.undo(3), x -> x.keep(1), x -> x.on(0),
            x -> x.street(0), x -> x.least(0, 3), x -> x.lots(1, 1)};
        for (int i = 0; i < changes.length; i++) {
            ColdShares x = Edges.lived();
            changes[i].on(x);
            Edges.due("42 change " + i + " is seen", x.digest() == lived ? 1 : 0, 0);
        }
    }
}
