import java.math.BigInteger;
import java.util.ArrayList;
import java.util.Arrays;
import java.util.List;
import java.util.TreeSet;

/**
 * The document once more, written from its words by plain enumeration and with the Java library, so
 * that WhyRoom's quicker ways can be compared with it. It shares no code with WhyRoom.
 */
final class PlainModel {
    private static final class Why {
        int claim;
        TreeSet<Integer> parts = new TreeSet<>();
    }

    private static final class Kept {
        List<Integer> evening;
        TreeSet<Integer> away;
        TreeSet<Integer> known;
        List<Integer> sure;
        boolean law;
    }

    private final int[][] rows = new int[6][];
    private final byte[][] texts = new byte[4][];
    private final Kept[] kept = new Kept[3];
    private String claims = "";
    private List<Why> whys = new ArrayList<>();
    private List<Integer> sure = new ArrayList<>();
    private TreeSet<Integer> away = new TreeSet<>();
    private TreeSet<Integer> known = new TreeSet<>();
    private boolean law;
    private List<Integer> evening; // the claims asked of; null: none
    private final int[] found = new int[6];
    private int latest;
    private int told;
    private BigInteger up = BigInteger.ZERO;
    private BigInteger low = BigInteger.ONE;

    private String draftClaims;
    private List<Why> draftWhys;
    private List<Integer> draftSure;

    private int find(int which) {
        latest = which;
        found[which]++;
        return -3;
    }

    // ---- rows and texts

    int row(int r, int n) {
        if (r < 0 || r > 5 || n > 40) return -1;
        if (n < 0) return find(5);
        rows[r] = new int[n];
        return n;
    }

    int lay(int r, int i, int v) {
        if (r < 0 || r > 5) return -1;
        if (rows[r] == null) return find(1);
        if (i < 0 || i >= rows[r].length) return find(2);
        told = rows[r][i];
        rows[r][i] = v;
        return 1;
    }

    int at(int r, int i) {
        if (r < 0 || r > 5) return -1;
        if (rows[r] == null) return find(1);
        if (i < 0 || i >= rows[r].length) return find(2);
        told = rows[r][i];
        return 1;
    }

    int tear(int r) {
        if (r < 0 || r > 5) return -1;
        if (rows[r] == null) return find(1);
        rows[r] = null;
        return 1;
    }

    int copy(int r, int i, int to, int j, int n) {
        if (r < 0 || r > 5 || to < 0 || to > 5) return -1;
        if (n < 0) return find(5);
        if (rows[r] == null || rows[to] == null) return find(1);
        if (i < 0 || (long) i + n > rows[r].length || j < 0 || (long) j + n > rows[to].length) return find(2);
        int[] taken = Arrays.copyOfRange(rows[r], i, i + n);
        for (int m = 0; m < n; m++) rows[to][j + m] = taken[m];
        return 1;
    }

    int mean(int r) {
        if (r < 0 || r > 5) return -1;
        if (rows[r] == null) return find(1);
        if (rows[r].length == 0) return find(4);
        BigInteger sum = BigInteger.ZERO;
        for (int v : rows[r]) sum = sum.add(BigInteger.valueOf(v));
        told = sum.divide(BigInteger.valueOf(rows[r].length)).intValueExact();
        return 1;
    }

    int text(int t, int n) {
        if (t < 0 || t > 3 || n > 80) return -1;
        if (n < 0) return find(5);
        texts[t] = new byte[n];
        Arrays.fill(texts[t], (byte) 32);
        return n;
    }

    int put(int t, int i, int v) {
        if (t < 0 || t > 3) return -1;
        if (texts[t] == null) return find(1);
        if (i < 0 || i >= texts[t].length) return find(2);
        int was = texts[t][i];
        texts[t][i] = (byte) v;
        return was + 1000;
    }

    int fault(int t) {
        if (t < 0 || t > 3) return -1;
        if (texts[t] == null) return find(1);
        return read(texts[t]);
    }

    /** A machine that takes sign by sign: what is wanted next is told by 'want'. */
    private int read(byte[] text) {
        draftClaims = "";
        draftWhys = new ArrayList<>();
        draftSure = new ArrayList<>();
        Why why = null;
        int left = 0;
        char want = 'i'; // i an item, c the claim, n how many, p a part, s how sure
        for (int place = 0; place < text.length; place++) {
            int sign = text[place];
            int figure = sign >= 48 && sign <= 57 ? sign - 48 : 99;
            if (want == 'i') {
                if (sign == 32) continue;
                if (sign == 98) {
                    if (draftClaims.isEmpty() || draftWhys.size() == 14) return place;
                    why = new Why();
                    want = 'c';
                } else if (sign > 0 && "celahm".indexOf(sign) >= 0) {
                    if (draftClaims.length() == 10 || !draftWhys.isEmpty()) return place;
                    draftClaims += (char) sign;
                } else return place;
            } else if (want == 'c') {
                if (figure >= draftClaims.length() || "el".indexOf(draftClaims.charAt(figure)) >= 0) return place;
                int others = 0;
                for (Why w : draftWhys) if (w.claim == figure) others++;
                if (others == 4) return place;
                why.claim = figure;
                want = 'n';
            } else if (want == 'n') {
                if (figure < 1 || figure > 3) return place;
                left = figure;
                want = 'p';
            } else if (want == 'p') {
                if (figure >= draftClaims.length() || figure == why.claim || !why.parts.add(figure)) return place;
                if (--left == 0) want = 's';
            } else {
                if (figure < 1 || figure > 9) return place;
                draftWhys.add(why);
                draftSure.add(figure);
                want = 'i';
            }
        }
        return want != 'i' || draftClaims.isEmpty() ? text.length : -9;
    }

    int room(int t) {
        if (t < 0 || t > 3) return -1;
        if (texts[t] == null) return find(1);
        if (read(texts[t]) != -9) return -4;
        claims = draftClaims;
        whys = draftWhys;
        sure = draftSure;
        away = new TreeSet<>();
        known = new TreeSet<>();
        law = false;
        evening = null;
        Arrays.fill(kept, null);
        return claims.length();
    }

    // ---- the terms

    private boolean isClaim(int x) {
        return x >= 0 && x < claims.length();
    }

    private boolean isWhy(int k) {
        return k >= 0 && k < whys.size();
    }

    private boolean is(int x, int kind) {
        char letter = claims.charAt(x);
        return switch (kind) {
            case 1 -> letter == 'e' || letter == 'l';
            case 2 -> letter == 'l';
            case 3 -> letter == 'a' || letter == 'm';
            case 4 -> letter == 'h';
            case 5 -> letter == 'm';
            default -> true;
        };
    }

    private boolean usable(int k) {
        Why w = whys.get(k);
        if (away.contains(w.claim)) return false;
        for (int p : w.parts) if (away.contains(p)) return false;
        return true;
    }

    private List<Integer> usableFor(int x) {
        List<Integer> out = new ArrayList<>();
        for (int k = 0; k < whys.size(); k++) if (whys.get(k).claim == x && usable(k)) out.add(k);
        return out;
    }

    private boolean atLoss(int x) {
        return is(x, 2) || !is(x, 1) && usableFor(x).isEmpty();
    }

    private static int bits(Iterable<Integer> set) {
        int out = 0;
        for (int x : set) out |= 1 << x;
        return out;
    }

    private static boolean in(int bits, int x) {
        return (bits & 1 << x) != 0;
    }

    private int all() {
        return (1 << claims.length()) - 1;
    }

    /** What stands by a set of claims and of reasons: begun with all, what does not hold within n levels goes. */
    private int stand(int by, int reasons) {
        int firm = 0;
        for (int level = 0; level <= claims.length(); level++) {
            int next = 0;
            for (int x = 0; x < claims.length(); x++) {
                if (!in(by, x) || away.contains(x)) continue;
                if (is(x, 1)) {
                    if (!is(x, 2)) next |= 1 << x;
                    continue;
                }
                for (int k = 0; k < whys.size(); k++) {
                    Why w = whys.get(k);
                    if (in(reasons, k) && w.claim == x && (bits(w.parts) & ~firm) == 0) next |= 1 << x;
                }
            }
            firm = next;
        }
        return firm;
    }

    // What was worked out since the call began, so that plain recursion ends in time.
    private int standNow = -1;
    private final Boolean[][] withinNow = new Boolean[10][16];
    private final Boolean[][] forcedNow = new Boolean[10][16];

    /** Ahead of each call. */
    void forget() {
        standNow = -1;
        for (int x = 0; x < 10; x++) {
            Arrays.fill(withinNow[x], null);
            Arrays.fill(forcedNow[x], null);
        }
    }

    private int stand() {
        if (standNow < 0) standNow = stand(all(), -1);
        return standNow;
    }

    private boolean holds(int x) {
        return in(stand(), x);
    }

    int claim(int x, int what) {
        if (!isClaim(x) || what < 0 || what > 4) return -1;
        told = claimFact(x, what);
        return 1;
    }

    private int claimFact(int x, int what) {
        int out = 0;
        switch (what) {
            case 0:
                return "celahm".indexOf(claims.charAt(x));
            case 1:
                for (int k = 0; k < whys.size(); k++) if (whys.get(k).claim == x) out |= 1 << k;
                return out;
            case 2:
                for (int k = 0; k < whys.size(); k++) if (whys.get(k).parts.contains(x)) out |= 1 << k;
                return out;
            case 3:
                return holds(x) ? 1 : 0;
            default:
                return away.contains(x) ? 1 : 0;
        }
    }

    int reason(int k, int what) {
        if (!isWhy(k) || what < 0 || what > 2) return -1;
        told = whyFact(k, what);
        return 1;
    }

    private int whyFact(int k, int what) {
        return what == 0 ? whys.get(k).claim : what == 1 ? bits(whys.get(k).parts) : sure.get(k);
    }

    int mark(int x, int kind) {
        if (!isClaim(x) || kind < 1 || kind > 5) return -1;
        if (!is(x, kind)) return find(3);
        int out = 0;
        switch (kind) {
            case 1:
                for (Why w : whys) if (w.parts.contains(x)) out++;
                return out;
            case 2:
                for (int y = 0; y < claims.length(); y++) if (!away.contains(y) && atLoss(y)) out++;
                return out;
            case 3:
                return Integer.bitCount(fallen(x));
            case 4:
                return known.contains(x) ? 1 : 0;
            default:
                for (int y = 0; y < claims.length(); y++) if (is(y, 3)) out++;
                return out;
        }
    }

    private int fallen(int x) {
        return stand() & ~stand(all() & ~(1 << x), -1) & ~(1 << x);
    }

    int trust(int k, int v) {
        if (!isWhy(k) || v < 1 || v > 9) return -1;
        return sure.set(k, v);
    }

    int away(int x, int is) {
        if (!isClaim(x) || is < 0 || is > 1) return -1;
        int was = away.contains(x) ? 1 : 0;
        if (is == 1) away.add(x);
        else away.remove(x);
        return was;
    }

    int learn(int x, int is) {
        if (!isClaim(x) || is < 0 || is > 1) return -1;
        if (!is(x, 4)) return find(3);
        int was = known.contains(x) ? 1 : 0;
        if (is == 1) known.add(x);
        else known.remove(x);
        return was;
    }

    int law(int is) {
        if (is < 0 || is > 1) return -1;
        int was = law ? 1 : 0;
        law = is == 1;
        return was;
    }

    // ---- an evening

    private int last() {
        return evening.get(evening.size() - 1);
    }

    private boolean over(int x) {
        return is(x, 1) || atLoss(x);
    }

    /** Pairs that may come next in an evening. */
    private List<int[]> moves(List<Integer> trail, boolean byLaw) {
        List<int[]> out = new ArrayList<>();
        int x = trail.get(trail.size() - 1);
        if (over(x)) return out;
        for (int k : usableFor(x))
            for (int p : whys.get(k).parts) if (!byLaw || !trail.contains(p)) out.add(new int[] {k, p});
        return out;
    }

    private int state(List<Integer> trail) {
        int x = trail.get(trail.size() - 1);
        if (atLoss(x)) return 2;
        if (is(x, 1)) return 1;
        return moves(trail, law).isEmpty() ? 3 : 0;
    }

    int begin(int x) {
        if (!isClaim(x)) return -1;
        if (away.contains(x)) return -4;
        evening = new ArrayList<>(List.of(x));
        return over(x) ? 1 : 0;
    }

    int answer(int k, int x) {
        if (!isWhy(k) || !isClaim(x)) return -1;
        if (evening == null) return -4;
        boolean can = false;
        for (int[] move : moves(evening, law)) can |= move[0] == k && move[1] == x;
        if (!can) return -4;
        if (evening.size() == 40) return -2;
        evening.add(x);
        return over(x) ? 1 : 0;
    }

    private int answers() {
        return evening == null ? 0 : evening.size() - 1;
    }

    int undo(int n) {
        if (n < 0 || n > answers()) return -1;
        int out = answers() - n;
        if (evening != null) evening = new ArrayList<>(evening.subList(0, n + 1));
        return out;
    }

    int here() {
        if (evening == null) return -4;
        told = answers();
        return last();
    }

    int may() {
        if (evening == null) return -4;
        int out = 0;
        for (int[] move : moves(evening, law)) out |= 1 << move[0];
        return out;
    }

    int ends() {
        return evening == null ? -4 : state(evening);
    }

    int asks(int r) {
        if (r < 0 || r > 5) return -1;
        if (evening == null) return -4;
        rows[r] = evening.stream().mapToInt(Integer::intValue).toArray();
        return evening.size();
    }

    int image(int k) {
        if (k < 0 || k > 2) return -1;
        if (claims.isEmpty()) return -4;
        Kept one = new Kept();
        one.evening = evening == null ? null : new ArrayList<>(evening);
        one.away = new TreeSet<>(away);
        one.known = new TreeSet<>(known);
        one.sure = new ArrayList<>(sure);
        one.law = law;
        kept[k] = one;
        return answers();
    }

    int on(int k) {
        if (k < 0 || k > 2) return -1;
        if (kept[k] == null) return find(1);
        Kept one = kept[k];
        evening = one.evening == null ? null : new ArrayList<>(one.evening);
        away = new TreeSet<>(one.away);
        known = new TreeSet<>(one.known);
        sure = new ArrayList<>(one.sure);
        law = one.law;
        return answers();
    }

    // ---- what stands

    int stands() {
        told = all() & ~stand() & ~bits(away);
        return stand();
    }

    private boolean firm(int k) {
        return usable(k) && (bits(whys.get(k).parts) & ~stand()) == 0;
    }

    /** Whether all can be at an end after n answers, whatever is asked. */
    private boolean within(int x, int n) {
        if (withinNow[x][n] == null) withinNow[x][n] = foundWithin(x, n);
        return withinNow[x][n];
    }

    private boolean foundWithin(int x, int n) {
        if (is(x, 1)) return holds(x);
        if (n == 0) return false;
        for (int k : usableFor(x)) if (firm(k) && allWithin(k, n - 1)) return true;
        return false;
    }

    private boolean allWithin(int k, int n) {
        for (int p : whys.get(k).parts) if (!within(p, n)) return false;
        return true;
    }

    int soonest(int x) {
        if (!isClaim(x)) return -1;
        if (!holds(x)) return -9;
        if (is(x, 1)) {
            told = -9;
            return 0;
        }
        for (int n = 1;; n++) {
            for (int k : usableFor(x)) {
                if (firm(k) && allWithin(k, n - 1)) {
                    told = k;
                    return n;
                }
            }
        }
    }

    /** The fewest answers by trees that meet no claim twice on a branch; -1: none. */
    private int tree(int x, int path) {
        if (is(x, 1)) return holds(x) ? 0 : -1;
        int best = -1;
        for (int k : usableFor(x)) {
            if (!firm(k)) continue;
            int sum = 1;
            for (int p : whys.get(k).parts) {
                int one = in(path, p) ? -1 : tree(p, path | 1 << p);
                if (one < 0) {
                    sum = -1;
                    break;
                }
                sum += one;
            }
            if (sum > 0 && (best < 0 || sum < best)) best = sum;
        }
        return best;
    }

    int steps(int x) {
        if (!isClaim(x)) return -1;
        return holds(x) ? Math.min(999, tree(x, 1 << x)) : -9;
    }

    int sure(int x) {
        if (!isClaim(x)) return -1;
        if (!holds(x)) return -9;
        for (int least = 9; least > 0; least--) {
            int reasons = 0;
            for (int k = 0; k < whys.size(); k++) if (sure.get(k) >= least) reasons |= 1 << k;
            if (in(stand(all(), reasons), x)) return least;
        }
        throw new IllegalStateException();
    }

    private void paths(List<Integer> trail, List<List<Integer>> out) {
        out.add(new ArrayList<>(trail));
        for (int[] move : moves(trail, true)) {
            trail.add(move[1]);
            paths(trail, out);
            trail.remove(trail.size() - 1);
        }
    }

    private static int order(List<Integer> a, List<Integer> b) {
        if (a.size() != b.size()) return b.size() - a.size();
        for (int i = 0; i < a.size(); i++) if (!a.get(i).equals(b.get(i))) return a.get(i) - b.get(i);
        return 0;
    }

    int longest(int x, int r) {
        if (!isClaim(x) || r < 0 || r > 5) return -1;
        List<List<Integer>> out = new ArrayList<>();
        paths(new ArrayList<>(List.of(x)), out);
        List<Integer> best = out.get(0);
        for (List<Integer> one : out) if (order(one, best) < 0) best = one;
        rows[r] = best.stream().mapToInt(Integer::intValue).toArray();
        return best.size() - 1;
    }

    // ---- losses

    private boolean forced(int x, int n) {
        if (forcedNow[x][n] == null) forcedNow[x][n] = foundForced(x, n);
        return forcedNow[x][n];
    }

    private boolean foundForced(int x, int n) {
        if (atLoss(x)) return true;
        if (is(x, 1) || n == 0) return false;
        for (int k : usableFor(x)) {
            boolean some = false;
            for (int p : whys.get(k).parts) some = some || forced(p, n - 1);
            if (!some) return false;
        }
        return true;
    }

    private int forcedIn(int x) {
        for (int n = 0; n <= claims.length(); n++) if (forced(x, n)) return n;
        return -9;
    }

    int lost() {
        int out = 0;
        for (int x = 0; x < claims.length(); x++) if (forcedIn(x) >= 0) out |= 1 << x;
        return out;
    }

    int never(int x) {
        if (!isClaim(x)) return -1;
        for (int k : usableFor(x)) {
            boolean safe = true;
            for (int p : whys.get(k).parts) safe &= forcedIn(p) < 0;
            if (safe) return k;
        }
        return -9;
    }

    int game(int x) {
        return isClaim(x) ? forcedIn(x) : -1;
    }

    // ---- words and the like

    int words(int x) {
        if (!isClaim(x)) return -1;
        if (!holds(x)) return -9;
        int fewest = 99;
        for (int set = 0; set <= all(); set++) {
            int speaks = 0;
            boolean fit = true;
            for (int y = 0; y < claims.length(); y++) {
                boolean unknown = is(y, 4) && !known.contains(y);
                fit &= !in(set, y) || unknown;
                if (!unknown || in(set, y)) speaks |= 1 << y;
            }
            if (fit && Integer.bitCount(set) < fewest && in(stand(speaks, -1), x)) {
                fewest = Integer.bitCount(set);
                told = set;
            }
        }
        return fewest;
    }

    private TreeSet<Integer> reach(int x) {
        TreeSet<Integer> out = new TreeSet<>(List.of(x));
        List<Integer> open = new ArrayList<>(out);
        while (!open.isEmpty()) {
            for (int k : usableFor(open.remove(0))) for (int p : whys.get(k).parts) if (out.add(p)) open.add(p);
        }
        return out;
    }

    int agree(int x) {
        if (!isClaim(x)) return -1;
        int out = 0;
        for (int y : reach(x)) if (usableFor(y).size() < 2) out |= 1 << y;
        return out;
    }

    int thin(int x) {
        if (!isClaim(x)) return -1;
        for (int many = 0; many <= 4; many++) {
            for (int y : reach(x)) {
                if (!is(y, 1) && usableFor(y).size() == many) {
                    told = many;
                    return y;
                }
            }
        }
        return -9;
    }

    int without(int x) {
        return isClaim(x) ? fallen(x) : -1;
    }

    int falls(int x) {
        if (!isClaim(x)) return -1;
        if (!holds(x)) {
            told = 0;
            return 0;
        }
        for (int many = 1; many <= 3; many++) {
            for (int set = 0; set <= all(); set++) {
                if (Integer.bitCount(set) == many && !in(set, x) && !in(stand(all() & ~set, -1), x)) {
                    told = set;
                    return many;
                }
            }
        }
        return -9;
    }

    int whose(int x) {
        if (!isClaim(x)) return -1;
        int each = 0;
        int some = 0;
        if (holds(x)) {
            boolean[] enough = new boolean[all() + 1];
            for (int set = 0; set <= all(); set++) {
                enough[set] = in(stand(set, -1), x);
                boolean least = enough[set];
                for (int sub = 0; sub < set; sub++) least &= (sub & ~set) != 0 || !enough[sub];
                if (least) some |= set;
            }
            for (int y = 0; y < claims.length(); y++) {
                if (!in(stand(all() & ~(1 << y), -1), x) && is(y, 3)) each |= 1 << y;
                if (!is(y, 3)) some &= ~(1 << y);
            }
        }
        told = some;
        return each;
    }

    // ---- evenings told

    private int refusal(int r) {
        if (r < 0 || r > 5) return -1;
        if (claims.isEmpty()) return -4;
        if (rows[r] == null) return find(1);
        int n = rows[r].length;
        if (n == 0 || n % 2 == 0 || n > 31) return find(5);
        for (int i = 0; i < n; i++) if (i % 2 == 0 ? !isClaim(rows[r][i]) : !isWhy(rows[r][i])) return find(3);
        return 0;
    }

    int judge(int r) {
        int refusal = refusal(r);
        if (refusal != 0) return refusal;
        List<Integer> trail = new ArrayList<>(List.of(rows[r][0]));
        int pair = 0;
        for (; 2 * pair + 2 < rows[r].length; pair++) {
            boolean can = false;
            for (int[] move : moves(trail, law))
                can |= move[0] == rows[r][2 * pair + 1] && move[1] == rows[r][2 * pair + 2];
            if (!can) break;
            trail.add(rows[r][2 * pair + 2]);
        }
        told = state(trail);
        return pair;
    }

    int held(int r) {
        int refusal = refusal(r);
        if (refusal != 0) return refusal;
        TreeSet<Integer> holds = new TreeSet<>();
        int reasons = 0;
        for (int i = 0; i < rows[r].length; i++) {
            if (i % 2 == 0) holds.add(rows[r][i]);
            else {
                holds.addAll(whys.get(rows[r][i]).parts);
                if (usable(rows[r][i])) reasons |= 1 << rows[r][i];
            }
        }
        told = stand(all(), reasons);
        return bits(holds);
    }

    int lied(int r) {
        int refusal = refusal(r);
        if (refusal != 0) return refusal;
        told = -9;
        int out = 0;
        for (int pair = rows[r].length / 2 - 1; pair >= 0; pair--) {
            if (whys.get(rows[r][2 * pair + 1]).claim != rows[r][2 * pair]) {
                out++;
                told = pair;
            }
        }
        return out;
    }

    private int fit(List<Integer> trail, int y, int n) {
        if (n == 0) return trail.get(trail.size() - 1) == y ? 1 : 0;
        int out = 0;
        for (int[] move : moves(trail, law)) {
            trail.add(move[1]);
            out += fit(trail, y, n - 1);
            trail.remove(trail.size() - 1);
        }
        return out;
    }

    int fits(int x, int y, int n) {
        if (!isClaim(x) || !isClaim(y) || n < 0 || n > 5) return -1;
        return fit(new ArrayList<>(List.of(x)), y, n);
    }

    // ---- lots

    private BigInteger[] chance(int x, int n) {
        if (atLoss(x)) return new BigInteger[] {BigInteger.ONE, BigInteger.ONE};
        BigInteger a = BigInteger.ZERO;
        BigInteger b = BigInteger.ONE;
        if (n > 0) {
            List<Integer> open = usableFor(x);
            for (int k : open) {
                for (int p : whys.get(k).parts) {
                    BigInteger[] one = chance(p, n - 1);
                    BigInteger under = one[1].multiply(BigInteger.valueOf((long) open.size() * whys.get(k).parts.size()));
                    a = a.multiply(under).add(one[0].multiply(b));
                    b = b.multiply(under);
                    BigInteger g = a.gcd(b);
                    a = a.divide(g);
                    b = b.divide(g);
                }
            }
        }
        return new BigInteger[] {a, b};
    }

    int odds(int x, int n) {
        if (!isClaim(x) || n < 0 || n > 6) return -1;
        BigInteger[] out = chance(x, n);
        up = out[0];
        low = out[1];
        return 1;
    }

    int night(int n, int seed) {
        if (n < 1 || n > 20 || seed < 1 || seed == Integer.MAX_VALUE) return -1;
        if (evening == null) return -4;
        if (answers() + n > 39) return -2;
        BigInteger z = BigInteger.valueOf(seed);
        for (int done = 0; done < n; done++) {
            z = z.multiply(BigInteger.valueOf(48271)).mod(BigInteger.valueOf(2147483647));
            TreeSet<Integer> open = new TreeSet<>();
            for (int[] move : moves(evening, law)) open.add(move[0]);
            if (open.isEmpty()) return done;
            int k = new ArrayList<>(open).get((int) (z.longValue() % open.size()));
            List<Integer> parts = new ArrayList<>();
            for (int[] move : moves(evening, law)) if (move[0] == k) parts.add(move[1]);
            evening.add(parts.get((int) (z.longValue() / 64 % parts.size())));
        }
        return n;
    }

    // ---- what is told

    int asked() {
        return told;
    }

    long upper() {
        return up.longValueExact();
    }

    long lower() {
        return low.longValueExact();
    }

    int count(int what) {
        int out = 0;
        switch (what) {
            case 0:
                return claims.length();
            case 1:
                return whys.size();
            case 2:
                return answers();
            case 3:
                return away.size();
            case 4:
                return known.size();
            case 5:
                for (int x = 0; x < claims.length(); x++) if (is(x, 1)) out++;
                return out;
            case 6:
                for (int[] row : rows) if (row != null) out++;
                return out;
            case 7:
                for (byte[] text : texts) if (text != null) out++;
                return out;
            case 8:
                for (Kept one : kept) if (one != null) out++;
                return out;
            default:
                return -1;
        }
    }

    int finding() {
        return latest;
    }

    int findings(int f) {
        return f < 1 || f > 5 ? -1 : found[f];
    }

    long digest() {
        List<Integer> vs = new ArrayList<>();
        for (int what = 0; what < 9; what++) vs.add(count(what));
        vs.add(law ? 1 : 0);
        for (int x = 0; x < claims.length(); x++) for (int what = 0; what < 5; what++) vs.add(claimFact(x, what));
        for (int k = 0; k < whys.size(); k++) for (int what = 0; what < 3; what++) vs.add(whyFact(k, what));
        if (evening == null) vs.add(-1);
        else vs.addAll(evening);
        for (Kept one : kept) vs.add(one == null ? -1 : one.evening == null ? 0 : one.evening.size() - 1);
        for (int[] row : rows) {
            vs.add(row == null ? -1 : row.length);
            if (row != null) for (int v : row) vs.add(v);
        }
        for (byte[] text : texts) {
            vs.add(text == null ? -1 : text.length);
            if (text != null) for (byte v : text) vs.add((int) v);
        }
        long h = 17;
        for (int v : vs) h = 31 * h + v;
        return h;
    }
}
