import java.util.ArrayList;
import java.util.Arrays;
import java.util.List;

/**
 * STREETS as wide as there are, where all ways are too many to try: the greatest HURT by hand, others by another way of
 * reckoning. What one degree more HURTS in a NIGHT never gets less, so the least HURT takes the cheapest degrees first.
 */
public final class WideStreetsTest {
    private static final int STREETS = 1500, KINDS = 6, FAILS = -1;

    public static void main(String[] args) {
        greatestHurtOfOne();
        greatestHurtOfOneMore();
        greatestHurtOfAll();
        oneNightTooFew();
        for (int seed = 1; seed <= STREETS; seed++) {
            new Drawn(seed).look();
        }
        Edges.end();
    }

    /** 45 degrees of one HOUSE of CHILDREN in five NIGHTS: 9 in each, twice 81. */
    private static void greatestHurtOfOne() {
        ColdShares x = allOwedByTheFirst("n99999");
        Edges.due("24 the greatest HURT", x.least(0, 3), 810);
        Edges.places("24 the greatest HURT", x, 3, 9, 9, 9, 9, 9);
        Edges.due("25 no 46th degree", x.price(0), Edges.NONE);
        Edges.due("26 the greatest HURT is in time", x.late(), 0);
        Edges.due("26 the greatest HURT", x.asked(), 810);
        Edges.due("27 the dearest degree", x.gain(0, 4), 132);
        Edges.due("27 none to sell", x.gain(4, 0), Edges.NONE);
        Edges.due("28 it sells to each other one", x.sales(), 4);
        Edges.due("28 the first", x.asked(), 1);
        Edges.due("29 the greatest HURT shared", x.share(4), 170);
        // 25 first degrees at 2 each, 20 second ones at 6 each: HOUSE 0 needs no second ones.
        Edges.places("29 the greatest HURT shared", x, 4, 5, 10, 10, 10, 10);
        Edges.due("30 two save", x.saves(3), 400);
        Edges.due("30 three save", x.saves(7), 540);
        Edges.due("30 four save", x.saves(15), 600);
        Edges.due("30 all save", x.saves(31), 640);
        Edges.chance("31 who OWES all, whose part is the mean of 0, 400, 540, 600, 640", x, x.part(0), 436, 1);
        Edges.chance("31 the others", x, x.part(4), 51, 1);
        Edges.chance("33 five NIGHTS of 9, tonight is sure", x, x.odds(0), 1, 10000);
    }

    /** The 46th degree fills all NIGHTS: 9 in five of them and 1 HURT by 812, 45 by 778 (one of them 8). */
    private static void greatestHurtOfOneMore() {
        ColdShares x = allOwedByTheFirst("n999991");
        Edges.due("24 all but one degree of all NIGHTS", x.least(0, 3), 778);
        Edges.places("24 all but one degree of all NIGHTS", x, 3, 8, 9, 9, 9, 9, 1);
        Edges.due("25 the dearest degree", x.price(0), 34);
    }

    private static void greatestHurtOfAll() {
        ColdShares x = Edges.streetOf("n9 c09 c09 c09 c09 c09");
        Edges.due("26 all in time", x.late(), 0);
        Edges.due("26 the greatest HURT of all", x.asked(), 810);
        Edges.due("29 there is no other way", x.share(4), 810);
        Edges.places("29 there is no other way", x, 4, 9, 9, 9, 9, 9);
        Edges.due("30 nothing saved", x.saves(31), 0);
        Edges.chance("31 nothing saved", x, x.part(2), 0, 1);
        Edges.due("27 no PLAN behind it", x.gain(0, 1), Edges.NONE);
        for (int h = 0; h < 5; h++) {
            Edges.due("16 HOUSE " + h + " BEARS 9", x.bear(h, 9), 162);
        }
        Edges.due("39 all that was HURT", x.count(5), 810);
    }

    private static void oneNightTooFew() {
        ColdShares x = allOwedByTheFirst("n9999");
        Edges.due("23 36 at most", x.most(0), 36);
        Edges.due("24 not 45", x.least(0, 3), Edges.NONE);
        Edges.due("26 late", x.late(), 1);
        Edges.due("26 the others OWE nothing", x.asked(), 0);
        Edges.due("30 no PLAN of one", x.saves(31), Edges.NONE);
        Edges.due("31 no PLAN of one", x.part(4), Edges.NONE);
        // 20 places for 45 degrees: 5 of them 3, 15 of them 2.
        Edges.due("29 yet they can together", x.share(4), 210);
    }

    private static ColdShares allOwedByTheFirst(String nights) {
        ColdShares x = Edges.streetOf(nights + " c09 c09 c09 c09 c09");
        for (int h = 1; h < 5; h++) {
            Edges.due("17 HOUSE " + h + " sells all", x.sell(h, 0, 9), 9 * (h + 1));
        }
        return x;
    }

    /** A STREET drawn by a seed, some DEEDS of it, and what it is by the tests' own book. */
    private static final class Drawn {
        final String name;
        final ColdShares x;
        final int nights, houses;
        final int[] cold, kind, warm, owes;
        final boolean[] bore;
        int night = 0;
        long lot;

        Drawn(int seed) {
            lot = seed * 2654435761L + 88172645463325252L;
            nights = 5 + draw(4);
            houses = 3 + draw(3);
            cold = new int[nights];
            kind = new int[houses];
            warm = new int[houses];
            owes = new int[houses];
            bore = new boolean[houses];
            name = "street " + seed + " '" + drawSigns() + "'";
            x = Edges.streetOf(name.substring(name.indexOf('\'') + 1, name.length() - 1));
            drawDeeds();
        }

        int draw(int n) {
            lot ^= lot << 13;
            lot ^= lot >>> 7;
            lot ^= lot << 17;
            return (int) Math.floorMod(lot, (long) n);
        }

        String drawSigns() {
            StringBuilder signs = new StringBuilder("n");
            int coldest = draw(2) == 0 ? 0 : 6;
            for (int i = 0; i < nights; i++) {
                cold[i] = coldest + draw(10 - coldest);
                signs.append(cold[i]);
            }
            int warmest = draw(2) == 0 ? 10 : 2;
            for (int h = 0; h < houses; h++) {
                kind[h] = draw(KINDS);
                warm[h] = draw(warmest);
                owes[h] = draw(3) == 0 ? draw(10) : 9;
                signs.append(' ').append("hspmyc".charAt(kind[h])).append(warm[h]).append(owes[h]);
            }
            return signs.toString();
        }

        void drawDeeds() {
            if (draw(2) == 0) {
                drawSales();
            }
            for (int i = draw(3); i > 0; i--) {
                Edges.due(name + " night()", x.night(), nights - ++night);
            }
            int h = draw(houses), d = Math.min(owes[h], top(h, cold[night]));
            if (d > 0 && draw(2) == 0) {
                Edges.due(name + " bear(" + h + ", " + d + ")", x.bear(h, d), pain(h, d));
                owes[h] -= d;
                bore[h] = true;
            }
        }

        void drawSales() {
            int k = draw(houses);
            for (int h = 0; h < houses; h++) {
                int d = draw(owes[h] + 1);
                if (h != k && d > 0) {
                    owes[h] -= d;
                    owes[k] += d;
                    Edges.due(name + " sell(" + h + ", " + k + ", " + d + ")", x.sell(h, k, d), owes[k]);
                }
            }
        }

        int top(int h, int aCold) {
            return kind[h] == 3 || kind[h] == 4 ? Math.min(2, aCold) : aCold;
        }

        int topIn(int h, int aNight) {
            return aNight == night && bore[h] ? 0 : top(h, cold[aNight]);
        }

        int pain(int h, int d) {
            int warmth = kind[h] == 1 ? warm[h] + 2 : kind[h] == 5 ? Math.max(0, warm[h] - 1) : warm[h];
            int above = Math.max(0, d - warmth);
            int times = kind[h] == 4 ? 0 : kind[h] == 2 || kind[h] == 5 ? 2 : 1;
            return times * above * above;
        }

        /** What each degree more HURTS these HOUSES, from a NIGHT on, the cheapest ahead. */
        int[] degrees(int set, int from) {
            List<Integer> all = new ArrayList<>();
            for (int h = 0; h < houses; h++) {
                for (int n = from; n < nights && (set >> h & 1) == 1; n++) {
                    for (int d = 1; d <= topIn(h, n); d++) {
                        all.add(pain(h, d) - pain(h, d - 1));
                    }
                }
            }
            return all.stream().mapToInt(Integer::intValue).sorted().toArray();
        }

        int cheapest(int set, int from, int owed) {
            int[] all = degrees(set, from);
            return owed < 0 || owed > all.length ? FAILS : Arrays.stream(all, 0, owed).sum();
        }

        int alone(int h, int owed) {
            return cheapest(1 << h, night, owed);
        }

        int owedBy(int set) {
            int sum = 0;
            for (int h = 0; h < houses; h++) {
                sum += (set >> h & 1) * owes[h];
            }
            return sum;
        }

        /** What they save; FAILS: one of them has no PLAN. */
        int saved(int set) {
            int sum = 0;
            for (int h = 0; h < houses; h++) {
                if ((set >> h & 1) == 1) {
                    if (alone(h, owes[h]) == FAILS) {
                        return FAILS;
                    }
                    sum += alone(h, owes[h]);
                }
            }
            return sum - cheapest(set, night, owedBy(set));
        }

        int gain(int h, int k) {
            int[] four = {alone(h, owes[h]), alone(k, owes[k]), alone(h, owes[h] - 1), alone(k, owes[k] + 1)};
            for (int one : four) {
                if (one == FAILS) {
                    return Edges.NONE;
                }
            }
            return 100 + four[0] + four[1] - four[2] - four[3];
        }

        static int orNone(int number) {
            return number == FAILS ? Edges.NONE : number;
        }

        void look() {
            for (int h = 0; h < houses; h++) {
                lookAlone(h);
            }
            lookLate();
            lookSales();
            lookShare();
            for (int set = 0; set < 1 << houses; set++) {
                Edges.due(name + " saves(" + set + ")", x.saves(set), orNone(saved(set)));
            }
            lookParts();
        }

        void lookAlone(int h) {
            int pain = alone(h, owes[h]), more = alone(h, owes[h] + 1);
            Edges.due(name + " most(" + h + ")", x.most(h), degrees(1 << h, night).length);
            Edges.due(name + " least(" + h + ", 0)", x.least(h, 0), orNone(pain));
            if (pain != FAILS) {
                Edges.places(name + " least(" + h + ", 0)", x, 0, plan(h));
            }
            Edges.due(name + " price(" + h + ")", x.price(h), pain == FAILS || more == FAILS ? Edges.NONE : more - pain);
        }

        int[] plan(int h) {
            int[] plan = new int[nights - night];
            int left = owes[h];
            for (int n = night; n < nights; n++) {
                int due = cheapest(1 << h, n, left), d = 0;
                while (!goesOn(cheapest(1 << h, n + 1, left - d), pain(h, d), due)) {
                    d++;
                }
                plan[n - night] = d;
                left -= d;
            }
            return plan;
        }

        static boolean goesOn(int others, int one, int due) {
            return others != FAILS && one != FAILS && others + one == due;
        }

        void lookLate() {
            int set = 0, sum = 0;
            for (int h = 0; h < houses; h++) {
                int pain = alone(h, owes[h]);
                set |= pain == FAILS ? 1 << h : 0;
                sum += pain == FAILS ? 0 : pain;
            }
            Edges.due(name + " late()", x.late(), set);
            Edges.due(name + " late(), asked()", x.asked(), sum);
        }

        void lookSales() {
            int pairs = 0, best = 100, first = Edges.NONE;
            for (int h = 0; h < houses; h++) {
                for (int k = 0; k < houses; k++) {
                    if (h != k) {
                        int gained = gain(h, k);
                        Edges.due(name + " gain(" + h + ", " + k + ")", x.gain(h, k), gained);
                        pairs += gained > 100 ? 1 : 0;
                        first = gained > best ? 6 * h + k : first;
                        best = Math.max(best, gained);
                    }
                }
            }
            Edges.due(name + " sales()", x.sales(), pairs);
            Edges.due(name + " sales(), asked()", x.asked(), first);
        }

        void lookShare() {
            int all = (1 << houses) - 1, left = owedBy(all), due = cheapest(all, night, left);
            Edges.due(name + " share(1)", x.share(1), orNone(due));
            if (due == FAILS) {
                return;
            }
            int[] shares = new int[houses];
            for (int h = 0; h < houses; h++) {
                int behind = all & -(2 << h), d = 0;
                while (!goesOn(cheapest(behind, night, left - d), alone(h, d), cheapest(behind | 1 << h, night, left))) {
                    d++;
                }
                shares[h] = d;
                left -= d;
            }
            Edges.places(name + " share(1)", x, 1, shares);
        }

        void lookParts() {
            int all = (1 << houses) - 1;
            int[] saved = new int[all + 1];
            for (int set = 0; set <= all; set++) {
                saved[set] = saved(set);
            }
            for (int h = 0; h < houses; h++) {
                if (saved[all] == FAILS) {
                    Edges.due(name + " part(" + h + ")", x.part(h), Edges.NONE);
                } else {
                    long sum = inAllOrders(saved, h, 0, 0), orders = orders(houses), shared = shared(sum, orders);
                    Edges.chance(name + " part(" + h + ")", x, x.part(h), sum / shared, orders / shared);
                }
            }
        }

        /** Of all orders that go on from those who came, what is saved more by a HOUSE, together. */
        long inAllOrders(int[] saved, int who, int came, long its) {
            if (came == (1 << houses) - 1) {
                return its;
            }
            long sum = 0;
            for (int h = 0; h < houses; h++) {
                if ((came >> h & 1) == 0) {
                    int next = came | 1 << h;
                    sum += inAllOrders(saved, who, next, h == who ? saved[next] - saved[came] : its);
                }
            }
            return sum;
        }

        static long orders(int n) {
            return n < 2 ? 1 : n * orders(n - 1);
        }

        static long shared(long a, long b) {
            return b == 0 ? a : shared(b, a % b);
        }
    }
}
