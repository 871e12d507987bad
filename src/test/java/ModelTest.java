import java.util.ArrayList;
import java.util.Arrays;
import java.util.List;
import java.util.regex.Matcher;
import java.util.regex.Pattern;

/** Runs of calls, drawn by fixed seeds, against a second program that tries all ways. */
public final class ModelTest {
    // An object is used for at most 512 calls; one step takes at most 70, what is told at the end 7.
    private static final int RUNS = 1200, LAST_STEP = 512 - 70 - 7;

    private static int wrong = 0;
    private static long calls = 0;

    public static void main(String[] args) {
        for (int run = 0; run < RUNS && wrong < 20; run++) {
            new Run(run).play();
        }
        System.out.println(wrong == 0 ? calls + " answers are as the model's" : wrong + " answers are not as the model's");
        if (wrong != 0) {
            System.exit(1);
        }
    }

    /** One run: both programs get the same calls. */
    private static final class Run {
        final int number;
        final ColdShares real = new ColdShares();
        final Model model = new Model();
        final StringBuilder log = new StringBuilder();
        int made = 0;
        long lot;

        Run(int number) {
            this.number = number;
            lot = 88172645463325252L + 7919L * number;
        }

        int draw(int n) {
            lot ^= lot << 13;
            lot ^= lot >>> 7;
            lot ^= lot << 17;
            return (int) Math.floorMod(lot, (long) n);
        }

        /** Mostly 0 .. top, now and then just outside, or far. */
        int some(int top) {
            int which = draw(40);
            if (which == 0) {
                return -1;
            }
            if (which == 1) {
                return top + 1;
            }
            if (which == 2) {
                return draw(2) == 0 ? Integer.MIN_VALUE : Integer.MAX_VALUE;
            }
            return draw(top + 1);
        }

        void same(String call, long got, long want) {
            calls++;
            made++;
            log.append("  ").append(call).append(" = ").append(got).append('\n');
            if (got != want) {
                wrong++;
                System.out.println("run " + number + ":\n" + log + "  the model says " + want);
                log.setLength(0);
            }
        }

        void play() {
            write(0, drawStreet());
            same("street(0)", real.street(0), model.street(0));
            while (made < LAST_STEP && wrong == 0) {
                call();
                same("digest()", real.digest(), model.digest());
                same("asked()", real.asked(), model.told);
                if (draw(3) == 0) {
                    same("upper()", real.upper(), model.upper);
                    same("lower()", real.lower(), model.lower);
                    same("finding()", real.finding(), model.finding);
                }
            }
            for (int f = 0; f <= 6; f++) {
                same("findings(" + f + ")", real.findings(f), model.findings(f));
            }
            if (made > 512) {
                wrong++;
                System.out.println("run " + number + " made " + made + " calls");
            }
        }

        void write(int t, String signs) {
            same("text(" + t + ", " + signs.length() + ")", real.text(t, signs.length()), model.text(t, signs.length()));
            for (int i = 0; i < signs.length(); i++) {
                int v = signs.charAt(i);
                same("put(" + t + ", " + i + ", " + v + ")", real.put(t, i, v), model.put(t, i, v));
            }
        }

        /** So few ways of bearing that all of them can be tried. */
        String drawStreet() {
            StringBuilder s = new StringBuilder();
            blanks(s);
            s.append('n');
            int nights = 1 + draw(8);
            int top = nights > 5 ? 2 : nights > 4 ? 4 : nights > 3 ? 6 : 9;
            for (int i = 0; i < nights; i++) {
                s.append(draw(top + 1));
            }
            int houses = 1 + draw(5);
            for (int i = 0; i < houses; i++) {
                blanks(s);
                s.append("hspmyc".charAt(draw(6))).append(draw(draw(2) == 0 ? 3 : 10)).append(draw(10));
            }
            blanks(s);
            return s.toString();
        }

        String drawFaultyStreet() {
            StringBuilder s = new StringBuilder(drawStreet());
            String signs = " nhspmyc0123456789/:\u00ffHx";
            for (int i = draw(4); i > 0; i--) {
                char sign = signs.charAt(draw(signs.length()));
                int place = draw(s.length());
                switch (draw(3)) {
                    case 0: s.setCharAt(place, sign); break;
                    case 1: s.insert(place, sign); break;
                    default: s.setLength(Math.max(1, place)); break;
                }
            }
            return s.length() > 60 ? s.substring(0, 60) : s.toString();
        }

        void blanks(StringBuilder s) {
            for (int i = draw(3); i > 0; i--) {
                s.append(' ');
            }
        }

        void call() {
            int group = draw(100);
            if (group < 15) {
                callRows();
            } else if (group < 25) {
                callTexts();
            } else if (group < 60) {
                callDeeds();
            } else {
                callPlans();
            }
        }

        void callRows() {
            int r = some(5), i = some(8), v = draw(5) == 0 ? (int) lot : draw(50);
            switch (draw(6)) {
                case 0: { int n = draw(3) == 0 ? some(40) : draw(9);
                    same("row(" + r + ", " + n + ")", real.row(r, n), model.row(r, n)); break; }
                case 1: same("lay(" + r + ", " + i + ", " + v + ")", real.lay(r, i, v), model.lay(r, i, v)); break;
                case 2: same("at(" + r + ", " + i + ")", real.at(r, i), model.at(r, i)); break;
                case 3: same("mean(" + r + ")", real.mean(r), model.mean(r)); break;
                case 4: { int to = some(5), j = some(5), n = some(5);
                    same("copy(" + r + ", " + i + ", " + to + ", " + j + ", " + n + ")",
                        real.copy(r, i, to, j, n), model.copy(r, i, to, j, n)); break; }
                default: same("tear(" + r + ")", real.tear(r), model.tear(r)); break;
            }
        }

        void callTexts() {
            int t = some(3);
            switch (draw(5)) {
                case 0: { int n = some(60);
                    same("text(" + t + ", " + n + ")", real.text(t, n), model.text(t, n)); break; }
                case 1: { int i = some(20), v = (int) lot;
                    same("put(" + t + ", " + i + ", " + v + ")", real.put(t, i, v), model.put(t, i, v)); break; }
                case 2: write(draw(4), drawFaultyStreet()); break;
                case 3: write(draw(4), drawStreet()); break;
                default: if (draw(3) == 0) {
                    same("street(" + t + ")", real.street(t), model.street(t)); break; }
            }
            same("fault(" + t + ")", real.fault(t), model.fault(t));
        }

        void callDeeds() {
            int h = some(4), k = some(4), d = some(5);
            switch (draw(9)) {
                case 0: case 1: case 2: same("bear(" + h + ", " + d + ")", real.bear(h, d), model.bear(h, d)); break;
                case 3: case 4: same("sell(" + h + ", " + k + ", " + d + ")", real.sell(h, k, d), model.sell(h, k, d)); break;
                case 5: if (draw(2) == 0) {
                    same("night()", real.night(), model.night()); } break;
                case 6: { int n = Math.max(model.deeds() - draw(12), 0) + (draw(20) == 0 ? 20 : 0);
                    if (draw(8) == 0) {
                        n = some(3);
                    }
                    same("undo(" + n + ")", real.undo(n), model.undo(n)); break; }
                case 7: { int p = some(2);
                    if (draw(2) == 0) {
                        same("keep(" + p + ")", real.keep(p), model.keep(p));
                    } else {
                        same("on(" + p + ")", real.on(p), model.on(p));
                    } break; }
                default: if (draw(3) == 0) {
                    int n = 1 + some(7), seed = draw(9) == 0 ? some(3) : 1 + (int) (lot >>> 34);
                    same("lots(" + n + ", " + seed + ")", real.lots(n, seed), model.lots(n, seed));
                } else {
                    int night = some(3), v = some(4);
                    same("wind(" + night + ", " + v + ")", real.wind(night, v), model.wind(night, v)); } break;
            }
        }

        void callPlans() {
            int h = some(4), k = some(4), r = some(5);
            switch (draw(16)) {
                case 0: { int what = some(5); same("house(" + h + ", " + what + ")", real.house(h, what), model.house(h, what)); break; }
                case 1: { int night = some(7); same("cold(" + night + ")", real.cold(night), model.cold(night)); break; }
                case 2: { int kind = some(5); same("mark(" + h + ", " + kind + ")", real.mark(h, kind), model.mark(h, kind)); break; }
                case 3: { int d = some(9); same("hurt(" + h + ", " + d + ")", real.hurt(h, d), model.hurt(h, d)); break; }
                case 4: same("most(" + h + ")", real.most(h), model.most(h)); break;
                case 5: same("least(" + h + ", " + r + ")", real.least(h, r), model.least(h, r)); break;
                case 6: same("price(" + h + ")", real.price(h), model.price(h)); break;
                case 7: same("late()", real.late(), model.late()); break;
                case 8: same("gain(" + h + ", " + k + ")", real.gain(h, k), model.gain(h, k)); break;
                case 9: same("sales()", real.sales(), model.sales()); break;
                case 10: same("share(" + r + ")", real.share(r), model.share(r)); break;
                case 11: { int set = some(31); same("saves(" + set + ")", real.saves(set), model.saves(set)); break; }
                case 12: same("part(" + h + ")", real.part(h), model.part(h)); break;
                case 13: { int night = some(4), sum = some(45); if (draw(2) == 0) { sum = some(12); }
                    same("ice(" + night + ", " + sum + ")", real.ice(night, sum), model.ice(night, sum)); break; }
                case 14: if (model.nightsBehind() < 5) {
                    same("odds(" + h + ")", real.odds(h), model.odds(h)); } break;
                default: { same("risk(" + h + ")", real.risk(h), model.risk(h));
                    int what = some(9); same("count(" + what + ")", real.count(what), model.count(what)); break; }
            }
        }
    }

    /** How a STREET is at one time; each DEED makes a new one. */
    private static final class Shot {
        int night;
        int[] cold, kind, warm, owes, hurt, bore;

        Shot copy() {
            Shot s = new Shot();
            s.night = night;
            s.cold = cold.clone();
            s.kind = kind.clone();
            s.warm = warm.clone();
            s.owes = owes.clone();
            s.hurt = hurt.clone();
            s.bore = bore.clone();
            return s;
        }
    }

    /** The document once more, plainly and slowly. */
    private static final class Model {
        static final Pattern STREET = Pattern.compile(" *n[0-9]{1,8} *(?:[hspmyc][0-9][0-9] *){1,5}");

        final int[][] rows = new int[6][];
        final byte[][] texts = new byte[4][];
        /** The STREET as it was ahead of each DEED, and as it is (last); null: no HOUSES. */
        List<Shot> shots = null;
        final List<List<Shot>> kept = new ArrayList<>(Arrays.asList(null, null, null));
        final int[] found = new int[6];
        int told = 0, finding = 0;
        long upper = 0, lower = 1;

        int find(int f) {
            finding = f;
            found[f]++;
            return -3;
        }

        int findings(int f) {
            return f >= 1 && f <= 5 ? found[f] : -1;
        }

        int row(int r, int n) {
            if (r < 0 || r > 5 || n > 40) return -1;
            if (n < 0) return find(5);
            rows[r] = new int[n];
            return n;
        }

        int lay(int r, int i, int v) {
            int answer = at(r, i);
            if (answer == 1) rows[r][i] = v;
            return answer;
        }

        int at(int r, int i) {
            if (r < 0 || r > 5) return -1;
            if (rows[r] == null) return find(1);
            if (i < 0 || i >= rows[r].length) return find(2);
            told = rows[r][i];
            return 1;
        }

        int tear(int r) {
            if (r < 0 || r > 5) return -1;
            if (rows[r] == null) return find(1);
            rows[r] = null;
            return 1;
        }

        int copy(int r, int i, int to, int j, int n) {
            if (r < 0 || r > 5 || to < 0 || to > 5) return -1;
            if (n < 0) return find(5);
            if (rows[r] == null || rows[to] == null) return find(1);
            if (i < 0 || j < 0 || (long) i + n > rows[r].length || (long) j + n > rows[to].length) return find(2);
            int[] taken = Arrays.copyOfRange(rows[r], i, i + n);
            for (int p = 0; p < n; p++) rows[to][j + p] = taken[p];
            return 1;
        }

        int mean(int r) {
            if (r < 0 || r > 5) return -1;
            if (rows[r] == null) return find(1);
            if (rows[r].length == 0) return find(4);
            long sum = 0;
            for (int v : rows[r]) sum += v;
            told = (int) (sum / rows[r].length);
            return 1;
        }

        int text(int t, int n) {
            if (t < 0 || t > 3 || n > 60) return -1;
            if (n < 0) return find(5);
            texts[t] = new byte[n];
            Arrays.fill(texts[t], (byte) 32);
            return n;
        }

        int put(int t, int i, int v) {
            if (t < 0 || t > 3) return -1;
            if (texts[t] == null) return find(1);
            if (i < 0 || i >= texts[t].length) return find(2);
            int was = texts[t][i];
            texts[t][i] = (byte) v;
            return was + 1000;
        }

        String signs(int t) {
            StringBuilder s = new StringBuilder();
            for (byte b : texts[t]) s.append((char) (b & 255));
            return s.toString();
        }

        /** The first place at which what stands so far can't become a STREET any more. */
        int fault(int t) {
            if (t < 0 || t > 3) return -1;
            if (texts[t] == null) return find(1);
            String s = signs(t);
            if (STREET.matcher(s).matches()) return -9;
            for (int n = 1; n <= s.length(); n++) {
                Matcher m = STREET.matcher(s.substring(0, n));
                if (!m.matches() && !m.hitEnd()) return n - 1;
            }
            return s.length();
        }

        int street(int t) {
            if (t < 0 || t > 3) return -1;
            if (texts[t] == null) return find(1);
            if (fault(t) != -9) return -4;
            String[] items = signs(t).replace(" ", "").split("(?=[nhspmyc])");
            Shot s = new Shot();
            int n = items.length - 1;
            s.cold = new int[items[0].length() - 1];
            for (int i = 0; i < s.cold.length; i++) s.cold[i] = items[0].charAt(i + 1) - '0';
            s.kind = new int[n];
            s.warm = new int[n];
            s.owes = new int[n];
            s.hurt = new int[n];
            s.bore = new int[n];
            for (int h = 0; h < n; h++) {
                s.kind[h] = "hspmyc".indexOf(items[h + 1].charAt(0));
                s.warm[h] = items[h + 1].charAt(1) - '0';
                s.owes[h] = items[h + 1].charAt(2) - '0';
                s.bore[h] = -9;
            }
            shots = new ArrayList<>();
            shots.add(s);
            for (int k = 0; k < 3; k++) kept.set(k, null);
            return n;
        }

        Shot now() {
            return shots.get(shots.size() - 1);
        }

        int houses() {
            return shots == null ? 0 : now().kind.length;
        }

        int nights() {
            return shots == null ? 0 : now().cold.length;
        }

        int tonight() {
            return shots == null ? 0 : now().night;
        }

        int deeds() {
            return shots == null ? 0 : shots.size() - 1;
        }

        int nightsBehind() {
            return Math.max(0, nights() - tonight() - 1);
        }

        boolean no(int h) {
            return h < 0 || h >= houses();
        }

        int pain(int h, int d) {
            int kind = now().kind[h], warm = now().warm[h];
            if (kind == 4) return 0;
            if (kind == 1) warm += 2;
            if (kind == 5 && warm > 0) warm--;
            int above = d > warm ? d - warm : 0;
            return above * above * (kind == 2 || kind == 5 ? 2 : 1);
        }

        int can(int h, int cold) {
            boolean miser = now().kind[h] == 3 || now().kind[h] == 4;
            return miser && cold > 2 ? 2 : cold;
        }

        int cap(int h, int night) {
            return night == tonight() && now().bore[h] != -9 ? 0 : can(h, now().cold[night]);
        }

        int side(int h, int what) {
            Shot s = now();
            switch (what) {
                case 0: return s.kind[h];
                case 1: return s.warm[h];
                case 2: return s.owes[h];
                case 3: return s.hurt[h];
                case 4: return s.bore[h];
                default: return s.night == nights() ? 0 : Math.min(s.owes[h], cap(h, s.night));
            }
        }

        int house(int h, int what) {
            if (no(h) || what < 0 || what > 5) return -1;
            told = side(h, what);
            return 1;
        }

        int cold(int night) {
            return night < 0 || night >= nights() ? -1 : now().cold[night];
        }

        int mark(int h, int kind) {
            if (no(h) || kind < 1 || kind > 5) return -1;
            int is = now().kind[h], warm = now().warm[h], owes = now().owes[h];
            boolean of = is == kind || is == 4 && kind == 3 || is == 5 && kind == 2;
            if (!of) return find(3);
            switch (kind) {
                case 1: return Math.min(9, warm + 2);
                case 2: return pain(h, 9) - (9 - warm) * (9 - warm);
                case 3: return (int) Math.ceil(owes / 2.0);
                case 4: return owes > warm ? (owes - warm) * (owes - warm) : 0;
                default: return Math.max(0, warm - 1) + 1;
            }
        }

        int wind(int night, int v) {
            if (night < 0 || night >= nights() || v < 0 || v > 9) return -1;
            if (deeds() > 0) return -4;
            int was = now().cold[night];
            now().cold[night] = v;
            return was;
        }

        Shot next() {
            Shot s = now().copy();
            shots.add(s);
            return s;
        }

        int bear(int h, int d) {
            if (no(h) || d < 1) return -1;
            if (now().bore[h] != -9 || tonight() == nights() || d > side(h, 5)) return -4;
            if (deeds() == 60) return -2;
            Shot s = next();
            s.owes[h] -= d;
            s.bore[h] = d;
            s.hurt[h] += pain(h, d);
            return pain(h, d);
        }

        int sell(int h, int k, int d) {
            if (no(h) || no(k) || h == k || d < 1) return -1;
            if (now().owes[h] < d || now().owes[k] + d > 99) return -4;
            if (deeds() == 60) return -2;
            Shot s = next();
            s.owes[h] -= d;
            s.owes[k] += d;
            return s.owes[k];
        }

        int night() {
            if (houses() == 0 || tonight() == nights()) return -4;
            if (deeds() == 60) return -2;
            Shot s = next();
            s.night++;
            Arrays.fill(s.bore, -9);
            return nights() - s.night;
        }

        int undo(int n) {
            if (n < 0 || n > deeds()) return -1;
            int undone = deeds() - n;
            for (int i = 0; i < undone; i++) shots.remove(shots.size() - 1);
            return undone;
        }

        List<Shot> copied(List<Shot> some) {
            List<Shot> all = new ArrayList<>();
            for (Shot s : some) all.add(s.copy());
            return all;
        }

        int keep(int k) {
            if (k < 0 || k > 2) return -1;
            if (houses() == 0) return -4;
            kept.set(k, copied(shots));
            return deeds();
        }

        int on(int k) {
            if (k < 0 || k > 2) return -1;
            if (kept.get(k) == null) return find(1);
            shots = copied(kept.get(k));
            return deeds();
        }

        int hurt(int h, int d) {
            return no(h) || d < 0 || d > 9 ? -1 : pain(h, d);
        }

        int most(int h) {
            if (no(h)) return -1;
            int sum = 0;
            for (int night = tonight(); night < nights(); night++) sum += cap(h, night);
            return sum;
        }

        // All PLANS of so many degrees, the first by NIGHTS first.
        int bestPain;
        int[] bestPlan;

        boolean plan(int h, int owes) {
            bestPlan = null;
            if (owes >= 0) tryPlans(h, new int[nights() - tonight()], 0, owes, 0);
            return bestPlan != null;
        }

        void tryPlans(int h, int[] plan, int i, int left, int pain) {
            if (i == plan.length) {
                if (left == 0 && (bestPlan == null || pain < bestPain)) {
                    bestPain = pain;
                    bestPlan = plan.clone();
                }
                return;
            }
            for (int d = 0; d <= left && d <= cap(h, tonight() + i); d++) {
                plan[i] = d;
                tryPlans(h, plan, i + 1, left - d, pain + pain(h, d));
            }
        }

        int leastOf(int h, int owes) {
            return plan(h, owes) ? bestPain : -1;
        }

        int least(int h, int r) {
            if (no(h) || r < 0 || r > 5) return -1;
            if (!plan(h, now().owes[h])) return -9;
            rows[r] = bestPlan;
            return bestPain;
        }

        int price(int h) {
            if (no(h)) return -1;
            int a = leastOf(h, now().owes[h]), b = leastOf(h, now().owes[h] + 1);
            return a < 0 || b < 0 ? -9 : b - a;
        }

        int late() {
            int set = 0;
            told = 0;
            for (int h = 0; h < houses(); h++) {
                int pain = leastOf(h, now().owes[h]);
                if (pain < 0) set += 1 << h;
                else told += pain;
            }
            return set;
        }

        int gain(int h, int k) {
            if (no(h) || no(k) || h == k) return -1;
            int a = leastOf(h, now().owes[h]), b = leastOf(k, now().owes[k]);
            int c = leastOf(h, now().owes[h] - 1), d = leastOf(k, now().owes[k] + 1);
            return a < 0 || b < 0 || c < 0 || d < 0 ? -9 : 100 + a + b - c - d;
        }

        int sales() {
            int pairs = 0, most = 100;
            told = -9;
            for (int h = 0; h < houses(); h++) {
                for (int k = 0; k < houses(); k++) {
                    int g = gain(h, k);
                    if (g > 100) pairs++;
                    if (g > most) {
                        most = g;
                        told = 6 * h + k;
                    }
                }
            }
            return pairs;
        }

        // All ways of sharing, the first by HOUSES first.
        int bestTotal;
        int[] bestShares;
        int[][] curves;

        void curves(int top) {
            curves = new int[houses()][top + 1];
            for (int h = 0; h < houses(); h++) {
                for (int o = 0; o <= top; o++) curves[h][o] = o > most(h) ? -1 : leastOf(h, o);
            }
        }

        void trySharing(int set, int[] shares, int h, int left, int pain) {
            if (bestShares != null && pain >= bestTotal) return;
            if (h == shares.length) {
                if (left == 0) {
                    bestTotal = pain;
                    bestShares = shares.clone();
                }
                return;
            }
            for (int o = 0; o <= left; o++) {
                if (o > 0 && (set >> h & 1) == 0 || curves[h][o] < 0) break;
                shares[h] = o;
                trySharing(set, shares, h + 1, left - o, pain + curves[h][o]);
            }
        }

        boolean shared(int set) {
            int owed = owedBy(set);
            bestShares = null;
            trySharing(set, new int[houses()], 0, owed, 0);
            return bestShares != null;
        }

        int owedBy(int set) {
            int sum = 0;
            for (int h = 0; h < houses(); h++) sum += (set >> h & 1) * now().owes[h];
            return sum;
        }

        int all() {
            return (1 << houses()) - 1;
        }

        int share(int r) {
            if (r < 0 || r > 5) return -1;
            if (houses() == 0) return -4;
            curves(owedBy(all()));
            if (!shared(all())) return -9;
            rows[r] = bestShares;
            return bestTotal;
        }

        int savesOf(int set) {
            int sum = 0;
            for (int h = 0; h < houses(); h++) {
                if ((set >> h & 1) == 1) {
                    int pain = curves[h][now().owes[h]];
                    if (pain < 0) return -9;
                    sum += pain;
                }
            }
            return shared(set) ? sum - bestTotal : -9;
        }

        int saves(int set) {
            if (set < 0 || set > all()) return -1;
            if (set == 0) return 0;
            curves(owedBy(all()));
            return savesOf(set);
        }

        int part(int h) {
            if (no(h)) return -1;
            curves(owedBy(all()));
            if (savesOf(all()) == -9) return -9;
            int[] saved = new int[all() + 1];
            for (int set = 0; set <= all(); set++) saved[set] = savesOf(set);
            tell(byOrders(h, 0, saved), orders(houses()));
            return 1;
        }

        long orders(int n) {
            return n < 2 ? 1 : n * orders(n - 1);
        }

        /** Of all orders that go on from those that came, what is saved more when h comes. */
        long byOrders(int h, int came, int[] saved) {
            long sum = 0;
            for (int k = 0; k < houses(); k++) {
                if ((came >> k & 1) == 1) continue;
                int then = came | 1 << k;
                if (k == h) sum += (saved[then] - saved[came]) * orders(houses() - Integer.bitCount(then));
                else sum += byOrders(h, then, saved);
            }
            return sum;
        }

        void tell(long up, long low) {
            for (long d = low; d > 1; d--) {
                if (up % d == 0 && low % d == 0) {
                    up /= d;
                    low /= d;
                    break;
                }
            }
            upper = up;
            lower = low;
        }

        long iceWays;
        int iceSure;

        int ice(int night, int sum) {
            if (night < 0 || night >= nights() || sum < 0 || sum > 45) return -1;
            iceWays = 0;
            iceSure = all();
            tryIce(night, 0, sum, 0);
            told = iceWays == 0 ? 0 : iceSure;
            upper = iceWays;
            lower = 1;
            return 1;
        }

        void tryIce(int night, int h, int left, int set) {
            if (h == houses()) {
                if (left == 0) {
                    iceWays++;
                    iceSure &= set;
                }
                return;
            }
            for (int d = 0; d <= left && d <= can(h, now().cold[night]); d++) {
                tryIce(night, h + 1, left - d, d > 0 ? set | 1 << h : set);
            }
        }

        int odds(int h) {
            if (no(h)) return -1;
            int tonight = tonight() == nights() ? 0 : cap(h, tonight());
            long all = Math.round(Math.pow(10, nightsBehind()));
            long good = 0;
            for (long winds = 0; winds < all; winds++) {
                int sum = tonight;
                long w = winds;
                for (int i = 0; i < nightsBehind(); i++, w /= 10) sum += can(h, (int) (w % 10));
                if (sum >= now().owes[h]) good++;
            }
            tell(good, all);
            return 1;
        }

        int risk(int h) {
            if (no(h)) return -1;
            int n = 0;
            for (int c = 0; c < 10; c++) n += pain(h, can(h, c)) > 0 ? 1 : 0;
            tell(n, 10);
            return 1;
        }

        int lots(int n, int seed) {
            if (n < 1 || n > 8 || seed < 1 || seed == Integer.MAX_VALUE) return -1;
            if (houses() == 0 || tonight() == nights()) return -4;
            if (deeds() + 6 * n > 60) return -2;
            long x = seed;
            int sum = 0;
            while (n-- > 0 && tonight() < nights()) {
                for (int h = 0; h < houses(); h++) {
                    if (now().bore[h] != -9) continue;
                    x = x * 48271L % 2147483647L;
                    int d = (int) ((x / 8) % (side(h, 5) + 1));
                    if (d > 0) sum += bear(h, d);
                }
                night();
            }
            return sum;
        }

        int count(int what) {
            int sum = 0;
            switch (what) {
                case 0: return houses();
                case 1: return nights();
                case 2: return tonight();
                case 3: return deeds();
                case 4: return owedBy(all());
                case 5: for (int h = 0; h < houses(); h++) sum += now().hurt[h]; return sum;
                case 6: for (int h = 0; h < houses(); h++) sum += now().kind[h] == 2 || now().kind[h] == 5 ? 1 : 0; return sum;
                case 7: for (int[] row : rows) sum += row == null ? 0 : 1; return sum;
                case 8: for (byte[] text : texts) sum += text == null ? 0 : 1; return sum;
                case 9: for (List<Shot> k : kept) sum += k == null ? 0 : 1; return sum;
                default: return -1;
            }
        }

        long digest() {
            List<Integer> all = new ArrayList<>();
            for (int what = 0; what < 10; what++) all.add(count(what));
            for (int i = 0; i < nights(); i++) all.add(cold(i));
            for (int h = 0; h < houses(); h++) for (int what = 0; what < 6; what++) all.add(side(h, what));
            for (List<Shot> k : kept) all.add(k == null ? -1 : k.size() - 1);
            for (int[] row : rows) {
                all.add(row == null ? -1 : row.length);
                if (row != null) for (int v : row) all.add(v);
            }
            for (byte[] text : texts) {
                all.add(text == null ? -1 : text.length);
                if (text != null) for (byte v : text) all.add((int) v);
            }
            long h = 17;
            for (int v : all) h = 31 * h + v;
            return h;
        }
    }
}
