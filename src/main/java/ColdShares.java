import java.util.Arrays;

/** Winter by shares: what the HOUSES of a STREET owe, bear, sell, and how least of it hurts. */
public final class ColdShares {
    public static final int BAD = -1, FULL = -2, FINDING = -3, STATE = -4, SPENT = -6, NONE = -9;

    private static final int NOTHING = 1, BEYOND = 2, UNLIKE = 3, NOUGHT = 4, SIZE = 5;

    private static final int ROWS = 6, PLACES = 40, TEXTS = 4, BYTES = 60, KEPT = 3;
    private static final int HOUSES = 5, NIGHTS = 8, DEEDS = 60, COUNTS = 10, SIDES = 6;
    private static final int TOP_FIGURE = 9, TOP_OWED = 99, TOP_ICE = 45;
    private static final int BLANK = 32, FIRST_ITEM = 110, FIGURE_0 = 48;
    private static final int MISSING = -1, NOBODY = -1;

    // Sales only hand degrees on, so no HOUSE ever OWES more than all did at first.
    private static final int ALL_OWED = HOUSES * TOP_FIGURE;
    // price() and gain() ask for one degree more.
    private static final int DEGREES = ALL_OWED + 2;
    // Stands for "no PLAN": above any HURT, and one for each HOUSE still fits an int.
    private static final int FAR = 1000000;

    private static final int LOT_TIMES = 48271, LOT_MODULUS = 2147483647, LOT_CUT = 8;
    private static final int DEEDS_OF_A_LOT = HOUSES + 1;

    private static final int MISER_TOP = 2;
    private static final int STOUT = 1, POOR = 2, MISER = 3, MAYOR = 4, CHILDREN = 5;
    // By KIND, HOUSE to CHILDREN.
    private static final int[] LETTER = {104, 115, 112, 109, 121, 99};
    private static final int[] ALSO = {0, 0, 0, 0, 3, 2};
    private static final int[] WARMER = {0, 2, 0, 0, 0, -1};
    private static final int[] TIMES = {1, 1, 2, 1, 0, 2};

    private static final int[] FACTORIAL = {1, 1, 2, 6, 24, 120};

    private final Row[] rows = new Row[ROWS];
    private final Row[] texts = new Row[TEXTS];
    private final Street now = new Street();
    private final Street[] kept = new Street[KEPT];
    private final Reader reader = new Reader();
    private final Plans plans = new Plans();
    private final Ways ways = new Ways();
    private final int[] found = new int[SIZE + 1];
    private int latestFinding = 0;
    private int told = 0;
    private long upperTold = 0;
    private long lowerTold = 1;

    public ColdShares() {
        for (int r = 0; r < ROWS; r++) {
            rows[r] = new Row(PLACES);
        }
        for (int t = 0; t < TEXTS; t++) {
            texts[t] = new Row(BYTES);
        }
        for (int k = 0; k < KEPT; k++) {
            kept[k] = new Street();
        }
    }

    // ---- 1 rows, texts, streets

    public int row(int r, int n) {
        if (noRow(r) || n > PLACES) {
            return BAD;
        }
        if (n < 0) {
            return answer(SIZE);
        }
        rows[r].begin(n, 0);
        return n;
    }

    public int lay(int r, int i, int v) {
        int seen = at(r, i);
        if (seen == 1) {
            rows[r].places[i] = v;
        }
        return seen;
    }

    public int at(int r, int i) {
        if (noRow(r)) {
            return BAD;
        }
        if (rows[r].isMissing()) {
            return answer(NOTHING);
        }
        if (!rows[r].has(i, 1)) {
            return answer(BEYOND);
        }
        told = rows[r].places[i];
        return 1;
    }

    public int tear(int r) {
        if (noRow(r)) {
            return BAD;
        }
        if (rows[r].isMissing()) {
            return answer(NOTHING);
        }
        rows[r].size = MISSING;
        return 1;
    }

    public int copy(int r, int i, int to, int j, int n) {
        if (noRow(r) || noRow(to)) {
            return BAD;
        }
        if (n < 0) {
            return answer(SIZE);
        }
        if (rows[r].isMissing() || rows[to].isMissing()) {
            return answer(NOTHING);
        }
        if (!rows[r].has(i, n) || !rows[to].has(j, n)) {
            return answer(BEYOND);
        }
        System.arraycopy(rows[r].places, i, rows[to].places, j, n);
        return 1;
    }

    public int mean(int r) {
        if (noRow(r)) {
            return BAD;
        }
        Row row = rows[r];
        if (row.isMissing()) {
            return answer(NOTHING);
        }
        if (row.size == 0) {
            return answer(NOUGHT);
        }
        long sum = 0;
        for (int i = 0; i < row.size; i++) {
            sum += row.places[i];
        }
        told = (int) (sum / row.size);
        return 1;
    }

    public int text(int t, int n) {
        if (noText(t) || n > BYTES) {
            return BAD;
        }
        if (n < 0) {
            return answer(SIZE);
        }
        texts[t].begin(n, BLANK);
        return n;
    }

    public int put(int t, int i, int v) {
        if (noText(t)) {
            return BAD;
        }
        if (texts[t].isMissing()) {
            return answer(NOTHING);
        }
        if (!texts[t].has(i, 1)) {
            return answer(BEYOND);
        }
        int was = texts[t].places[i];
        texts[t].places[i] = (byte) v;
        return 1000 + was;
    }

    public int fault(int t) {
        if (noText(t)) {
            return BAD;
        }
        if (texts[t].isMissing()) {
            return answer(NOTHING);
        }
        return reader.read(texts[t]);
    }

    public int street(int t) {
        if (noText(t)) {
            return BAD;
        }
        if (texts[t].isMissing()) {
            return answer(NOTHING);
        }
        if (reader.read(texts[t]) != NONE) {
            return STATE;
        }
        now.take(reader.draft);
        for (int k = 0; k < KEPT; k++) {
            kept[k].clear();
        }
        return now.size;
    }

    public int house(int h, int what) {
        if (noHouse(h) || what < 0 || what >= SIDES) {
            return BAD;
        }
        told = sideOf(h, what);
        return 1;
    }

    public int cold(int night) {
        return noNight(night) ? BAD : now.cold[night];
    }

    public int mark(int h, int kind) {
        if (noHouse(h) || kind < STOUT || kind > CHILDREN) {
            return BAD;
        }
        if (!now.houses[h].isOf(kind)) {
            return answer(UNLIKE);
        }
        return now.houses[h].tellsAs(kind);
    }

    public int wind(int night, int v) {
        if (noNight(night) || v < 0 || v > TOP_FIGURE) {
            return BAD;
        }
        if (now.deeds > 0) {
            return STATE;
        }
        int was = now.cold[night];
        now.cold[night] = v;
        return was;
    }

    // ---- 2 deeds

    public int bear(int h, int d) {
        if (noHouse(h) || d < 1) {
            return BAD;
        }
        // Who did BEAR tonight, and whoever it is at CANDLEMAS, can BEAR 0 more.
        if (d > now.canTonight(h)) {
            return STATE;
        }
        if (now.deeds >= DEEDS) {
            return FULL;
        }
        now.act(h, NOBODY, d);
        return now.houses[h].painOf(d);
    }

    public int sell(int h, int k, int d) {
        if (noHouse(h) || noHouse(k) || h == k || d < 1) {
            return BAD;
        }
        if (d > now.houses[h].owes || now.houses[k].owes + d > TOP_OWED) {
            return STATE;
        }
        if (now.deeds >= DEEDS) {
            return FULL;
        }
        now.act(h, k, d);
        return now.houses[k].owes;
    }

    public int night() {
        if (now.isCandlemas()) {
            return STATE;
        }
        if (now.deeds >= DEEDS) {
            return FULL;
        }
        now.act(NOBODY, NOBODY, 0);
        return now.nights - now.night;
    }

    public int undo(int n) {
        if (n < 0 || n > now.deeds) {
            return BAD;
        }
        int undone = now.deeds - n;
        now.replay(n);
        return undone;
    }

    public int keep(int k) {
        if (noKept(k)) {
            return BAD;
        }
        if (now.isEmpty()) {
            return STATE;
        }
        kept[k].take(now);
        return now.deeds;
    }

    public int on(int k) {
        if (noKept(k)) {
            return BAD;
        }
        if (kept[k].isEmpty()) {
            return answer(NOTHING);
        }
        now.take(kept[k]);
        return now.deeds;
    }

    // ---- 3 what hurts

    public int hurt(int h, int d) {
        if (noHouse(h) || d < 0 || d > TOP_FIGURE) {
            return BAD;
        }
        return now.houses[h].painOf(d);
    }

    public int most(int h) {
        if (noHouse(h)) {
            return BAD;
        }
        int sum = 0;
        for (int night = now.night; night < now.nights; night++) {
            sum += now.topIn(h, night);
        }
        return sum;
    }

    public int least(int h, int r) {
        if (noHouse(h) || noRow(r)) {
            return BAD;
        }
        plans.weigh(now, h);
        int owes = now.houses[h].owes;
        int pain = plans.painFor(h, owes);
        if (pain >= FAR) {
            return NONE;
        }
        rows[r].begin(now.nights - now.night, 0);
        plans.writePlan(now, h, owes, rows[r].places);
        return pain;
    }

    public int price(int h) {
        if (noHouse(h)) {
            return BAD;
        }
        plans.weigh(now, h);
        int pain = plans.painFor(h, now.houses[h].owes);
        int more = plans.painFor(h, now.houses[h].owes + 1);
        return pain >= FAR || more >= FAR ? NONE : more - pain;
    }

    public int late() {
        plans.weighAll(now);
        int set = 0;
        int sum = 0;
        for (int h = 0; h < now.size; h++) {
            int pain = plans.painFor(h, now.houses[h].owes);
            if (pain >= FAR) {
                set |= 1 << h;
            } else {
                sum += pain;
            }
        }
        told = sum;
        return set;
    }

    // ---- 4 who bears whose (aside)

    public int gain(int h, int k) {
        if (noHouse(h) || noHouse(k) || h == k) {
            return BAD;
        }
        plans.weigh(now, h);
        plans.weigh(now, k);
        return gainOf(h, k);
    }

    public int sales() {
        plans.weighAll(now);
        int pairs = 0;
        int best = 100;
        int first = NONE;
        for (int h = 0; h < now.size; h++) {
            for (int k = 0; k < now.size; k++) {
                int gained = h == k ? NONE : gainOf(h, k);
                if (gained > 100) {
                    pairs++;
                }
                if (gained > best) {
                    best = gained;
                    first = 6 * h + k;
                }
            }
        }
        told = first;
        return pairs;
    }

    public int share(int r) {
        if (noRow(r)) {
            return BAD;
        }
        if (now.isEmpty()) {
            return STATE;
        }
        plans.weighAll(now);
        int all = (1 << now.size) - 1;
        int owed = now.owedBy(all);
        int pain = plans.painOfPool(now, all, owed);
        if (pain >= FAR) {
            return NONE;
        }
        rows[r].begin(now.size, 0);
        plans.writeShares(now.size, owed, rows[r].places);
        return pain;
    }

    public int saves(int set) {
        if (set < 0 || set >= 1 << now.size) {
            return BAD;
        }
        plans.weighAll(now);
        int alone = plans.painAlone(now, set);
        if (alone >= FAR) {
            return NONE;
        }
        return alone - plans.painOfPool(now, set, now.owedBy(set));
    }

    public int part(int h) {
        if (noHouse(h)) {
            return BAD;
        }
        plans.weighAll(now);
        if (plans.painAlone(now, (1 << now.size) - 1) >= FAR) {
            return NONE;
        }
        plans.poolAllSets(now.size);
        long sum = 0;
        for (int set = 0; set < 1 << now.size; set++) {
            if (!isIn(set, h)) {
                int ahead = Integer.bitCount(set);
                int orders = FACTORIAL[ahead] * FACTORIAL[now.size - 1 - ahead];
                sum += (long) orders * (savedBy(set | (1 << h)) - savedBy(set));
            }
        }
        return tell(sum, FACTORIAL[now.size]);
    }

    // ---- 5 ice

    public int ice(int night, int sum) {
        if (noNight(night) || sum < 0 || sum > TOP_ICE) {
            return BAD;
        }
        ways.begin();
        int top = 0;
        for (int h = 0; h < now.size; h++) {
            int can = now.houses[h].canAt(now.cold[night]);
            ways.spread(now.houses[h], can);
            top += can;
        }
        told = sum > top ? 0 : sureAt(now.cold[night], sum, top);
        return tell(ways.number[sum], 1);
    }

    // ---- 6 chances, lots

    public int odds(int h) {
        if (noHouse(h)) {
            return BAD;
        }
        ways.begin();
        long all = 1;
        for (int night = now.night + 1; night < now.nights; night++) {
            ways.spread(now.houses[h], TOP_FIGURE);
            all *= TOP_FIGURE + 1;
        }
        int tonight = now.isCandlemas() ? 0 : now.topIn(h, now.night);
        return tell(ways.from(now.houses[h].owes - tonight), all);
    }

    public int risk(int h) {
        if (noHouse(h)) {
            return BAD;
        }
        House house = now.houses[h];
        int painful = 0;
        for (int cold = 0; cold <= TOP_FIGURE; cold++) {
            if (house.painOf(house.canAt(cold)) > 0) {
                painful++;
            }
        }
        return tell(painful, TOP_FIGURE + 1);
    }

    public int lots(int n, int seed) {
        if (n < 1 || n > NIGHTS || seed < 1 || seed >= LOT_MODULUS) {
            return BAD;
        }
        if (now.isCandlemas()) {
            return STATE;
        }
        if (now.deeds + DEEDS_OF_A_LOT * n > DEEDS) {
            return FULL;
        }
        long number = seed;
        int pain = 0;
        for (int i = 0; i < n && !now.isCandlemas(); i++) {
            for (int h = 0; h < now.size; h++) {
                if (now.houses[h].bore == NONE) {
                    number = number * LOT_TIMES % LOT_MODULUS;
                    pain += bearByLot(h, number);
                }
            }
            now.act(NOBODY, NOBODY, 0);
        }
        return pain;
    }

    // ---- 7 what is told

    public int asked() {
        return told;
    }

    public long upper() {
        return upperTold;
    }

    public long lower() {
        return lowerTold;
    }

    public int count(int what) {
        switch (what) {
            case 0: return now.size;
            case 1: return now.nights;
            case 2: return now.night;
            case 3: return now.deeds;
            case 4: return now.owedBy((1 << now.size) - 1);
            case 5: return now.painTillNow();
            case 6: return now.countOf(POOR);
            case 7: return thereOf(rows, ROWS);
            case 8: return thereOf(texts, TEXTS);
            case 9: return keptStreets();
            default: return BAD;
        }
    }

    public int finding() {
        return latestFinding;
    }

    public int findings(int f) {
        return f < NOTHING || f > SIZE ? BAD : found[f];
    }

    public long digest() {
        long sum = 17;
        for (int what = 0; what < COUNTS; what++) {
            sum = 31 * sum + count(what);
        }
        for (int night = 0; night < now.nights; night++) {
            sum = 31 * sum + now.cold[night];
        }
        for (int h = 0; h < now.size; h++) {
            for (int what = 0; what < SIDES; what++) {
                sum = 31 * sum + sideOf(h, what);
            }
        }
        for (int k = 0; k < KEPT; k++) {
            sum = 31 * sum + (kept[k].isEmpty() ? MISSING : kept[k].deeds);
        }
        for (int r = 0; r < ROWS; r++) {
            sum = rows[r].digestOn(sum);
        }
        for (int t = 0; t < TEXTS; t++) {
            sum = texts[t].digestOn(sum);
        }
        return sum;
    }

    // ---- what the calls share

    private boolean noRow(int r) {
        return r < 0 || r >= ROWS;
    }

    private boolean noText(int t) {
        return t < 0 || t >= TEXTS;
    }

    private boolean noHouse(int h) {
        return h < 0 || h >= now.size;
    }

    private boolean noNight(int night) {
        return night < 0 || night >= now.nights;
    }

    private boolean noKept(int k) {
        return k < 0 || k >= KEPT;
    }

    private static boolean isIn(int set, int h) {
        return (set >> h & 1) == 1;
    }

    private int answer(int finding) {
        latestFinding = finding;
        found[finding]++;
        return FINDING;
    }

    private int tell(long up, long low) {
        long a = up;
        long b = low;
        // Two rounds halve it at least, so no long needs as many.
        for (int round = 0; round < 200 && b != 0; round++) {
            long rest = a % b;
            a = b;
            b = rest;
        }
        long shared = a < 1 ? 1 : a;
        upperTold = up / shared;
        lowerTold = low / shared;
        return 1;
    }

    private int sideOf(int h, int what) {
        House house = now.houses[h];
        switch (what) {
            case 0: return house.kind;
            case 1: return house.warm;
            case 2: return house.owes;
            case 3: return house.pain;
            case 4: return house.bore;
            default: return now.canTonight(h);
        }
    }

    private int gainOf(int h, int k) {
        int ahead = plans.painFor(h, now.houses[h].owes) + plans.painFor(k, now.houses[k].owes);
        int behind = plans.painFor(h, now.houses[h].owes - 1) + plans.painFor(k, now.houses[k].owes + 1);
        return ahead >= FAR || behind >= FAR ? NONE : 100 + ahead - behind;
    }

    private int savedBy(int set) {
        return plans.painAlone(now, set) - plans.pooledPain(set, now.owedBy(set));
    }

    // All sums from 0 to what they can together come about: without a HOUSE, too.
    // So it is sure just if the others can't have BORNE all of it.
    private int sureAt(int cold, int sum, int top) {
        int set = 0;
        for (int h = 0; h < now.size; h++) {
            if (sum > top - now.houses[h].canAt(cold)) {
                set |= 1 << h;
            }
        }
        return set;
    }

    private int bearByLot(int h, long number) {
        int d = (int) (number / LOT_CUT % (1 + now.canTonight(h)));
        if (d == 0) {
            return 0;
        }
        now.act(h, NOBODY, d);
        return now.houses[h].painOf(d);
    }

    private int thereOf(Row[] some, int n) {
        int there = 0;
        for (int i = 0; i < n; i++) {
            if (!some[i].isMissing()) {
                there++;
            }
        }
        return there;
    }

    private int keptStreets() {
        int there = 0;
        for (int k = 0; k < KEPT; k++) {
            if (!kept[k].isEmpty()) {
                there++;
            }
        }
        return there;
    }

    /** A ROW or a TEXT; its room is made once, and used again. */
    private static final class Row {
        final int[] places;
        int size = MISSING;

        Row(int room) {
            places = new int[Math.max(0, room)];
        }

        void begin(int n, int v) {
            size = n;
            Arrays.fill(places, 0, n, v);
        }

        boolean isMissing() {
            return size < 0;
        }

        // Without i + n, which may be beyond any int.
        boolean has(int i, int n) {
            return i >= 0 && i <= size - n;
        }

        long digestOn(long ahead) {
            long sum = 31 * ahead + size;
            for (int i = 0; i < size; i++) {
                sum = 31 * sum + places[i];
            }
            return sum;
        }
    }

    /** A HOUSE: what it is, what it OWED at first, and how it is with it now. */
    private static final class House {
        int kind;
        int warm;
        int owed;
        int owes;
        int pain;
        int bore = NONE;

        void become(int newKind, int newWarm, int newOwed) {
            kind = newKind;
            warm = newWarm;
            owed = newOwed;
            restart();
        }

        void restart() {
            owes = owed;
            pain = 0;
            bore = NONE;
        }

        boolean isOf(int some) {
            return kind == some || ALSO[kind] == some;
        }

        int canAt(int cold) {
            return isOf(MISER) ? Math.min(cold, MISER_TOP) : cold;
        }

        int painOf(int d) {
            return TIMES[kind] * squareAbove(d, Math.max(0, warm + WARMER[kind]));
        }

        int plainPainOf(int d) {
            return squareAbove(d, warm);
        }

        void bearTonight(int d) {
            owes -= d;
            pain += painOf(d);
            bore = d;
        }

        int tellsAs(int some) {
            switch (some) {
                case STOUT: return mostWithoutPain();
                case POOR: return painOf(TOP_FIGURE) - plainPainOf(TOP_FIGURE);
                case MISER: return (owes + MISER_TOP - 1) / MISER_TOP;
                case MAYOR: return plainPainOf(owes);
                default: return leastWithPain();
            }
        }

        private int mostWithoutPain() {
            int most = 0;
            for (int d = 1; d <= TOP_FIGURE; d++) {
                if (painOf(d) == 0) {
                    most = d;
                }
            }
            return most;
        }

        private int leastWithPain() {
            for (int d = 1; d <= TOP_FIGURE; d++) {
                if (painOf(d) > 0) {
                    return d;
                }
            }
            return NONE;
        }

        private static int squareAbove(int d, int warmth) {
            int above = Math.max(0, d - warmth);
            return above * above;
        }
    }

    /** A STREET: what it was at first, and its DEEDS, by which it is what it is now. */
    private static final class Street {
        final int[] cold = new int[NIGHTS];
        final House[] houses = new House[HOUSES];
        final int[] who = new int[DEEDS];
        final int[] whom = new int[DEEDS];
        final int[] degrees = new int[DEEDS];
        int nights = 0;
        int size = 0;
        int night = 0;
        int deeds = 0;

        Street() {
            for (int h = 0; h < HOUSES; h++) {
                houses[h] = new House();
            }
        }

        void clear() {
            nights = 0;
            size = 0;
            night = 0;
            deeds = 0;
        }

        void take(Street other) {
            nights = other.nights;
            size = other.size;
            System.arraycopy(other.cold, 0, cold, 0, NIGHTS);
            for (int h = 0; h < size; h++) {
                houses[h].become(other.houses[h].kind, other.houses[h].warm, other.houses[h].owed);
            }
            System.arraycopy(other.who, 0, who, 0, DEEDS);
            System.arraycopy(other.whom, 0, whom, 0, DEEDS);
            System.arraycopy(other.degrees, 0, degrees, 0, DEEDS);
            replay(other.deeds);
        }

        boolean isEmpty() {
            return size == 0;
        }

        // Without HOUSES there are no NIGHTS: then, too, none can go by.
        boolean isCandlemas() {
            return night >= nights;
        }

        void replay(int n) {
            night = 0;
            for (int h = 0; h < size; h++) {
                houses[h].restart();
            }
            deeds = n;
            for (int i = 0; i < n; i++) {
                perform(i);
            }
        }

        void act(int h, int k, int d) {
            if (deeds >= DEEDS) {
                return;
            }
            who[deeds] = h;
            whom[deeds] = k;
            degrees[deeds] = d;
            perform(deeds);
            deeds++;
        }

        private void perform(int i) {
            if (who[i] == NOBODY) {
                passNight();
            } else if (whom[i] == NOBODY) {
                houses[who[i]].bearTonight(degrees[i]);
            } else {
                houses[who[i]].owes -= degrees[i];
                houses[whom[i]].owes += degrees[i];
            }
        }

        private void passNight() {
            night++;
            for (int h = 0; h < size; h++) {
                houses[h].bore = NONE;
            }
        }

        // What it OWES aside.
        int topIn(int h, int aNight) {
            if (aNight == night && houses[h].bore != NONE) {
                return 0;
            }
            return houses[h].canAt(cold[aNight]);
        }

        int canTonight(int h) {
            return isCandlemas() ? 0 : Math.min(topIn(h, night), houses[h].owes);
        }

        int owedBy(int set) {
            int sum = 0;
            for (int h = 0; h < size; h++) {
                if (isIn(set, h)) {
                    sum += houses[h].owes;
                }
            }
            return sum;
        }

        int painTillNow() {
            int sum = 0;
            for (int h = 0; h < size; h++) {
                sum += houses[h].pain;
            }
            return sum;
        }

        int countOf(int kind) {
            int sum = 0;
            for (int h = 0; h < size; h++) {
                if (houses[h].isOf(kind)) {
                    sum++;
                }
            }
            return sum;
        }
    }

    /** Reads a TEXT, sign by sign, into a draft of a STREET. */
    private static final class Reader {
        final Street draft = new Street();
        private Row text = null;
        private int place = 0;

        /** Its FAULT; NONE: there is none, and the draft is the STREET that it tells. */
        int read(Row source) {
            text = source;
            place = 0;
            draft.clear();
            skipBlanks();
            if (!readNights()) {
                return place;
            }
            skipBlanks();
            for (int i = 0; i < BYTES && place < source.size; i++) {
                if (draft.size >= HOUSES || !readHouse()) {
                    return place;
                }
                skipBlanks();
            }
            return draft.isEmpty() ? place : NONE;
        }

        private boolean readNights() {
            if (sign() != FIRST_ITEM) {
                return false;
            }
            place++;
            for (int i = 0; i < NIGHTS && isFigure(); i++) {
                draft.cold[i] = takeFigure();
                draft.nights = i + 1;
            }
            return draft.nights > 0;
        }

        private boolean readHouse() {
            int kind = kindOfSign();
            if (kind == NONE) {
                return false;
            }
            place++;
            if (!isFigure()) {
                return false;
            }
            int warm = takeFigure();
            if (!isFigure()) {
                return false;
            }
            draft.houses[draft.size].become(kind, warm, takeFigure());
            draft.size++;
            return true;
        }

        // MISSING is no sign that anything is told by, so the end needs no look of its own.
        private int sign() {
            return text != null && text.has(place, 1) ? text.places[place] : MISSING;
        }

        private boolean isFigure() {
            return sign() >= FIGURE_0 && sign() <= FIGURE_0 + TOP_FIGURE;
        }

        private int takeFigure() {
            int figure = sign() - FIGURE_0;
            place++;
            return figure;
        }

        private int kindOfSign() {
            for (int kind = 0; kind <= CHILDREN; kind++) {
                if (LETTER[kind] == sign()) {
                    return kind;
                }
            }
            return NONE;
        }

        private void skipBlanks() {
            for (int i = 0; i < BYTES && sign() == BLANK; i++) {
                place++;
            }
        }
    }

    /** The least HURT by which HOUSES, alone or pooled, BEAR so many degrees from this NIGHT on. */
    private static final class Plans {
        // By a NIGHT and how many degrees are to be BORNE from it on: of the HOUSE weighed last.
        private final int[][] onward = new int[NIGHTS + 1][DEGREES];
        private final int[][] alone = new int[HOUSES][DEGREES];
        private final int[][] pooled = new int[1 << HOUSES][DEGREES];

        void weighAll(Street street) {
            for (int h = 0; h < street.size; h++) {
                weigh(street, h);
            }
        }

        void weigh(Street street, int h) {
            bearNothing(onward[street.nights]);
            for (int night = street.nights - 1; night >= street.night; night--) {
                House house = street.houses[h];
                Arrays.fill(onward[night], FAR);
                for (int d = 0; d <= street.topIn(h, night); d++) {
                    relieve(onward[night], onward[night + 1], d, house.painOf(d));
                }
            }
            System.arraycopy(onward[street.night], 0, alone[h], 0, DEGREES);
        }

        private static void bearNothing(int[] pains) {
            Arrays.fill(pains, FAR);
            pains[0] = 0;
        }

        // d degrees here, all others there.
        private static void relieve(int[] pains, int[] others, int d, int pain) {
            for (int sum = d; sum < DEGREES; sum++) {
                pains[sum] = Math.min(pains[sum], pain + others[sum - d]);
            }
        }

        int painFor(int h, int owes) {
            return owes < 0 || owes >= DEGREES ? FAR : alone[h][owes];
        }

        /** The first PLAN of those that hurt least, of the HOUSE weighed last. */
        void writePlan(Street street, int h, int owes, int[] places) {
            int left = owes;
            for (int night = street.night; night < street.nights; night++) {
                int d = firstTonight(street.houses[h], night, left, street.topIn(h, night));
                places[night - street.night] = d;
                left -= d;
            }
        }

        private int firstTonight(House house, int night, int left, int top) {
            for (int d = 0; d <= top && d <= left; d++) {
                if (house.painOf(d) + onward[night + 1][left - d] == onward[night][left]) {
                    return d;
                }
            }
            return 0;
        }

        int painAlone(Street street, int set) {
            int sum = 0;
            for (int h = 0; h < street.size; h++) {
                if (isIn(set, h)) {
                    sum += painFor(h, street.houses[h].owes);
                }
            }
            return sum;
        }

        /** From the last HOUSE to the first, as writeShares() needs it. */
        int painOfPool(Street street, int set, int owed) {
            bearNothing(pooled[0]);
            int joined = 0;
            for (int h = street.size - 1; h >= 0; h--) {
                if (isIn(set, h)) {
                    join(joined, h);
                    joined |= 1 << h;
                }
            }
            return pooledPain(set, owed);
        }

        void poolAllSets(int houses) {
            bearNothing(pooled[0]);
            for (int h = houses - 1; h >= 0; h--) {
                int behind = houses - 1 - h;
                for (int some = 0; some < 1 << behind; some++) {
                    join(some << (h + 1), h);
                }
            }
        }

        private void join(int set, int h) {
            int[] pains = pooled[set | (1 << h)];
            Arrays.fill(pains, FAR);
            for (int d = 0; d < DEGREES; d++) {
                if (alone[h][d] < FAR) {
                    relieve(pains, pooled[set], d, alone[h][d]);
                }
            }
        }

        int pooledPain(int set, int owed) {
            return owed < 0 || owed >= DEGREES ? FAR : pooled[set][owed];
        }

        /** The first of all shares that hurt least, of the pool of all HOUSES. */
        void writeShares(int houses, int owed, int[] places) {
            int left = owed;
            for (int h = 0; h < houses; h++) {
                int d = firstShare(h, (1 << houses) - (1 << (h + 1)), left);
                places[h] = d;
                left -= d;
            }
        }

        private int firstShare(int h, int behind, int left) {
            for (int d = 0; d <= left; d++) {
                if (alone[h][d] + pooled[behind][left - d] == pooled[behind | (1 << h)][left]) {
                    return d;
                }
            }
            return 0;
        }
    }

    /** In how many ways degrees come together. */
    private static final class Ways {
        final long[] number = new long[NIGHTS * TOP_FIGURE + 1];
        private final long[] ahead = new long[NIGHTS * TOP_FIGURE + 1];

        void begin() {
            Arrays.fill(number, 0);
            number[0] = 1;
        }

        /** What a HOUSE can BEAR at COLD 0, 1, .. up to one comes to them, each a way. */
        void spread(House house, int cold) {
            System.arraycopy(number, 0, ahead, 0, number.length);
            Arrays.fill(number, 0);
            for (int c = 0; c <= cold; c++) {
                int can = house.canAt(c);
                for (int sum = can; sum < number.length; sum++) {
                    number[sum] += ahead[sum - can];
                }
            }
        }

        /** Of so many degrees, or more. */
        long from(int least) {
            long all = 0;
            for (int sum = Math.max(0, least); sum < number.length; sum++) {
                all += number[sum];
            }
            return all;
        }
    }
}
