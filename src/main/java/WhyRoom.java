import java.util.Arrays;

/**
 * A room of claims and the reasons for them, and an evening of whys in it. README.md tells how to
 * use it; the words in capitals are those of the document.
 */
public final class WhyRoom {
    public static final int BAD = -1, FULL = -2, FINDING = -3, STATE = -4, SPENT = -6, NONE = -9;

    private static final int NOTHING = 1, BEYOND = 2, UNLIKE = 3, NOUGHT = 4, SIZE = 5;
    private static final int FINDINGS = 5;

    private static final int ROWS = 6, ROW_MOST = 40, TEXTS = 4, TEXT_MOST = 80, IMAGES = 3;
    private static final int MISSING = -1;
    private static final int PUT_MORE = 1000;

    private static final int END = 1, LOST = 2, ACT = 3, HARD = 4, MACHINE = 5;
    private static final int KINDS = 6, CLAIM_FACTS = 5, REASON_FACTS = 3, COUNTS = 9;
    private static final int CLAIMS_MOST = 10, REASONS_MOST = 14, REASONS_EACH = 4, PARTS_MOST = 3;
    private static final int SUREST = 9;
    private static final int BITS = 32;

    private static final int ANSWERS_MOST = 39, PAIRS_MOST = 15, FITS_MOST = 5, ODDS_MOST = 6;
    private static final int NIGHT_MOST = 20, SEED_TIMES = 48271, SEED_ROUND = 2147483647, PART_SHARE = 64;
    private static final int GOES_ON = 0, AT_END = 1, AT_LOSS = 2, BARRED = 3;

    private static final int STEPS_MOST = 999, FALLS_MOST = 3;
    // Above every number of answers that a room can ask for.
    private static final int FAR = 1000000;
    private static final int BY_LENGTH = 0, BY_ANSWERS = 1, BY_DOUBT = 2;
    // Every product of up to four reasons and up to three parts divides it.
    private static final int LOTS = 72;

    private final Row[] rows;
    private final Text[] texts;
    private final State[] images;
    private final Reader reader;
    private final Scheme plan;
    private final State now;
    private final Ground ground;
    private final Ways ways;
    private final Losses losses;
    private final Needs needs;
    private final Tale tale;
    private final Lots lots;
    private final int[] found;
    private int latest;
    private int told;
    private long above;
    private long below;

    public WhyRoom() {
        rows = new Row[ROWS];
        for (int r = 0; r < ROWS; r++) {
            rows[r] = new Row();
        }
        texts = new Text[TEXTS];
        for (int t = 0; t < TEXTS; t++) {
            texts[t] = new Text();
        }
        images = new State[IMAGES];
        for (int k = 0; k < IMAGES; k++) {
            images[k] = new State();
        }
        reader = new Reader();
        plan = new Scheme();
        now = new State();
        ground = new Ground(plan, now);
        ways = new Ways(plan, now, ground);
        losses = new Losses(plan, ground);
        needs = new Needs(plan, now, ground);
        tale = new Tale(plan, now, ground);
        lots = new Lots(plan, now, ground);
        found = new int[FINDINGS + 1];
        below = 1;
    }

    // ---- 1 rows, texts, rooms

    public int row(int r, int n) {
        if (!isRow(r) || n > ROW_MOST) {
            return BAD;
        }
        if (n < 0) {
            return refuse(SIZE);
        }
        rows[r].renew(n);
        return n;
    }

    public int lay(int r, int i, int v) {
        if (!isRow(r)) {
            return BAD;
        }
        Row row = rows[r];
        if (row.isMissing()) {
            return refuse(NOTHING);
        }
        if (!row.spans(i, 1)) {
            return refuse(BEYOND);
        }
        told = row.cells[i];
        row.cells[i] = v;
        return 1;
    }

    public int at(int r, int i) {
        if (!isRow(r)) {
            return BAD;
        }
        Row row = rows[r];
        if (row.isMissing()) {
            return refuse(NOTHING);
        }
        if (!row.spans(i, 1)) {
            return refuse(BEYOND);
        }
        told = row.cells[i];
        return 1;
    }

    public int tear(int r) {
        if (!isRow(r)) {
            return BAD;
        }
        if (rows[r].isMissing()) {
            return refuse(NOTHING);
        }
        rows[r].size = MISSING;
        return 1;
    }

    public int copy(int r, int i, int to, int j, int n) {
        if (!isRow(r) || !isRow(to)) {
            return BAD;
        }
        if (n < 0) {
            return refuse(SIZE);
        }
        Row from = rows[r];
        Row into = rows[to];
        if (from.isMissing() || into.isMissing()) {
            return refuse(NOTHING);
        }
        if (!from.spans(i, n) || !into.spans(j, n)) {
            return refuse(BEYOND);
        }
        System.arraycopy(from.cells, i, into.cells, j, n);
        return 1;
    }

    public int mean(int r) {
        if (!isRow(r)) {
            return BAD;
        }
        Row row = rows[r];
        if (row.isMissing()) {
            return refuse(NOTHING);
        }
        if (row.size == 0) {
            return refuse(NOUGHT);
        }
        told = (int) (row.sum() / row.size);
        return 1;
    }

    public int text(int t, int n) {
        if (!isText(t) || n > TEXT_MOST) {
            return BAD;
        }
        if (n < 0) {
            return refuse(SIZE);
        }
        texts[t].renew(n);
        return n;
    }

    public int put(int t, int i, int v) {
        if (!isText(t)) {
            return BAD;
        }
        Text text = texts[t];
        if (text.isMissing()) {
            return refuse(NOTHING);
        }
        if (i < 0 || i >= text.size) {
            return refuse(BEYOND);
        }
        int was = text.signs[i];
        text.signs[i] = (byte) v;
        return was + PUT_MORE;
    }

    public int fault(int t) {
        if (!isText(t)) {
            return BAD;
        }
        if (texts[t].isMissing()) {
            return refuse(NOTHING);
        }
        return reader.faultOf(texts[t]);
    }

    public int room(int t) {
        if (!isText(t)) {
            return BAD;
        }
        if (texts[t].isMissing()) {
            return refuse(NOTHING);
        }
        if (reader.faultOf(texts[t]) != NONE) {
            return STATE;
        }
        plan.become(reader.draft);
        now.renew(plan);
        for (int k = 0; k < IMAGES; k++) {
            images[k].isKept = false;
        }
        return plan.claims;
    }

    public int claim(int x, int what) {
        if (!isClaim(x) || what < 0 || what >= CLAIM_FACTS) {
            return BAD;
        }
        told = factOfClaim(x, what);
        return 1;
    }

    public int reason(int k, int what) {
        if (!isReason(k) || what < 0 || what >= REASON_FACTS) {
            return BAD;
        }
        told = factOfReason(k, what);
        return 1;
    }

    public int mark(int x, int kind) {
        if (!isClaim(x) || kind < 1 || kind >= KINDS) {
            return BAD;
        }
        if (!has(plan.bitsOf(kind), x)) {
            return refuse(UNLIKE);
        }
        switch (kind) {
            case END:
                return Integer.bitCount(plan.reasonsWith(x));
            case LOST:
                return Integer.bitCount(ground.lossBits() & ~now.away);
            case ACT:
                return Integer.bitCount(ground.fallingWithout(x));
            case HARD:
                return bit(now.known, x);
            default:
                return Integer.bitCount(plan.bitsOf(ACT));
        }
    }

    public int trust(int k, int v) {
        if (!isReason(k) || v < 1 || v > SUREST) {
            return BAD;
        }
        int was = now.sureness[k];
        now.sureness[k] = v;
        return was;
    }

    public int away(int x, int is) {
        if (!isClaim(x) || !isSwitch(is)) {
            return BAD;
        }
        int was = bit(now.away, x);
        now.away = withBit(now.away, x, is);
        return was;
    }

    public int learn(int x, int is) {
        if (!isClaim(x) || !isSwitch(is)) {
            return BAD;
        }
        if (!has(plan.bitsOf(HARD), x)) {
            return refuse(UNLIKE);
        }
        int was = bit(now.known, x);
        now.known = withBit(now.known, x, is);
        return was;
    }

    public int law(int is) {
        if (!isSwitch(is)) {
            return BAD;
        }
        int was = now.law;
        now.law = is;
        return was;
    }

    // ---- 2 an evening

    public int begin(int x) {
        if (!isClaim(x)) {
            return BAD;
        }
        if (has(now.away, x)) {
            return STATE;
        }
        now.open(x);
        return overHere();
    }

    public int answer(int k, int x) {
        if (!isReason(k) || !isClaim(x)) {
            return BAD;
        }
        if (!now.hasEvening() || !ground.canGo(now.place(), k, x, now.barredBits())) {
            return STATE;
        }
        if (now.answers() >= ANSWERS_MOST) {
            return FULL;
        }
        now.goTo(x);
        return overHere();
    }

    public int undo(int n) {
        int answers = now.answers();
        if (n < 0 || n > answers) {
            return BAD;
        }
        now.cutTo(n);
        return answers - n;
    }

    public int here() {
        if (!now.hasEvening()) {
            return STATE;
        }
        told = now.answers();
        return now.place();
    }

    public int may() {
        if (!now.hasEvening()) {
            return STATE;
        }
        return ground.openReasons(now.place(), now.barredBits());
    }

    public int ends() {
        if (!now.hasEvening()) {
            return STATE;
        }
        return ground.wayOut(now.place(), now.barredBits());
    }

    public int asks(int r) {
        if (!isRow(r)) {
            return BAD;
        }
        if (!now.hasEvening()) {
            return STATE;
        }
        rows[r].take(now.trail, now.trailSize);
        return now.trailSize;
    }

    public int image(int k) {
        if (!isImage(k)) {
            return BAD;
        }
        if (plan.claims == 0) {
            return STATE;
        }
        images[k].become(now);
        images[k].isKept = true;
        return now.answers();
    }

    public int on(int k) {
        if (!isImage(k)) {
            return BAD;
        }
        if (!images[k].isKept) {
            return refuse(NOTHING);
        }
        now.become(images[k]);
        return now.answers();
    }

    // ---- 3 what stands, how far

    public int stands() {
        int standing = ground.standing();
        told = plan.allBits() & ~standing & ~now.away;
        return standing;
    }

    public int soonest(int x) {
        if (!isClaim(x)) {
            return BAD;
        }
        int least = ways.leastFrom(x, BY_LENGTH);
        if (least != NONE) {
            told = ways.firstLeast(x, BY_LENGTH);
        }
        return least;
    }

    public int steps(int x) {
        return isClaim(x) ? ways.leastFrom(x, BY_ANSWERS) : BAD;
    }

    public int sure(int x) {
        if (!isClaim(x)) {
            return BAD;
        }
        int doubt = ways.leastFrom(x, BY_DOUBT);
        return doubt == NONE ? NONE : SUREST - doubt;
    }

    public int longest(int x, int r) {
        if (!isClaim(x) || !isRow(r)) {
            return BAD;
        }
        int answers = ways.longestFrom(x);
        rows[r].take(ways.longTrail, answers + 1);
        return answers;
    }

    // ---- 4 at a loss

    public int lost() {
        return losses.losingBits();
    }

    public int never(int x) {
        return isClaim(x) ? losses.safeReason(x) : BAD;
    }

    public int game(int x) {
        return isClaim(x) ? losses.answersToLoss(x) : BAD;
    }

    // ---- 5 words, two who agree, thin ones

    public int words(int x) {
        if (!isClaim(x)) {
            return BAD;
        }
        if (!has(ground.standing(), x)) {
            return NONE;
        }
        told = needs.wordsFor(x);
        return Integer.bitCount(told);
    }

    public int agree(int x) {
        return isClaim(x) ? ground.settledFrom(x) : BAD;
    }

    public int thin(int x) {
        if (!isClaim(x)) {
            return BAD;
        }
        int thinnest = ground.thinnestFrom(x);
        if (thinnest != NONE) {
            told = Integer.bitCount(ground.usableFor(thinnest));
        }
        return thinnest;
    }

    // ---- 6 what falls

    public int without(int x) {
        return isClaim(x) ? ground.fallingWithout(x) : BAD;
    }

    public int falls(int x) {
        if (!isClaim(x)) {
            return BAD;
        }
        if (!has(ground.standing(), x)) {
            told = 0;
            return 0;
        }
        int taken = needs.fellingOf(x);
        if (taken == 0) {
            return NONE;
        }
        told = taken;
        return Integer.bitCount(taken);
    }

    public int whose(int x) {
        if (!isClaim(x)) {
            return BAD;
        }
        if (!has(ground.standing(), x)) {
            told = 0;
            return 0;
        }
        told = needs.actsSomeWay(x);
        return needs.actsEachWay(x);
    }

    // ---- 7 evenings told

    public int judge(int r) {
        int refusal = refusalOfTale(r);
        if (refusal != 0) {
            return refusal;
        }
        int pairs = tale.goodPairs(rows[r]);
        told = tale.wayOut;
        return pairs;
    }

    public int held(int r) {
        int refusal = refusalOfTale(r);
        if (refusal != 0) {
            return refusal;
        }
        told = ground.standingBy(now.away, tale.reasonsIn(rows[r]));
        return tale.claimsIn(rows[r]);
    }

    public int lied(int r) {
        int refusal = refusalOfTale(r);
        if (refusal != 0) {
            return refusal;
        }
        int lies = tale.liesIn(rows[r]);
        told = tale.firstLie;
        return lies;
    }

    public int fits(int x, int y, int n) {
        if (!isClaim(x) || !isClaim(y) || n < 0 || n > FITS_MOST) {
            return BAD;
        }
        return lots.rowsBetween(x, y, n);
    }

    // ---- 8 lots

    public int odds(int x, int n) {
        if (!isClaim(x) || n < 0 || n > ODDS_MOST) {
            return BAD;
        }
        above = lots.shareOfLoss(x, n);
        below = 1;
        for (int i = 0; i < n; i++) {
            below *= LOTS;
        }
        long common = commonDivisor(above, below);
        above /= common;
        below /= common;
        return 1;
    }

    public int night(int n, int seed) {
        if (n < 1 || n > NIGHT_MOST || seed < 1 || seed >= SEED_ROUND) {
            return BAD;
        }
        if (!now.hasEvening()) {
            return STATE;
        }
        if (now.answers() + n > ANSWERS_MOST) {
            return FULL;
        }
        return lots.goOn(n, seed);
    }

    // ---- 9 what is told

    public int asked() {
        return told;
    }

    public long upper() {
        return above;
    }

    public long lower() {
        return below;
    }

    public int count(int what) {
        return what < 0 || what >= COUNTS ? BAD : howMany(what);
    }

    public int finding() {
        return latest;
    }

    public int findings(int f) {
        return f < 1 || f > FINDINGS ? BAD : found[f];
    }

    public long digest() {
        long h = 17;
        for (int what = 0; what < COUNTS; what++) {
            h = 31 * h + howMany(what);
        }
        h = 31 * h + now.law;
        h = withFacts(h);
        h = withEvening(h);
        for (int k = 0; k < IMAGES; k++) {
            h = 31 * h + (images[k].isKept ? images[k].answers() : MISSING);
        }
        for (int r = 0; r < ROWS; r++) {
            h = withRow(h, rows[r]);
        }
        for (int t = 0; t < TEXTS; t++) {
            h = withText(h, texts[t]);
        }
        return h;
    }

    // ---- what the calls share

    private int refuse(int which) {
        latest = which;
        if (which >= 1 && which <= FINDINGS) {
            found[which]++;
        }
        return FINDING;
    }

    private static boolean isRow(int r) {
        return r >= 0 && r < ROWS;
    }

    private static boolean isText(int t) {
        return t >= 0 && t < TEXTS;
    }

    private static boolean isImage(int k) {
        return k >= 0 && k < IMAGES;
    }

    private static boolean isSwitch(int is) {
        return is == 0 || is == 1;
    }

    private boolean isClaim(int x) {
        return x >= 0 && x < plan.claims;
    }

    private boolean isReason(int k) {
        return k >= 0 && k < plan.reasons;
    }

    private static boolean has(int bits, int i) {
        return (bits >> i & 1) == 1;
    }

    private static int bit(int bits, int i) {
        return bits >> i & 1;
    }

    private static int withBit(int bits, int i, int is) {
        return is == 1 ? bits | 1 << i : bits & ~(1 << i);
    }

    private static long commonDivisor(long a, long b) {
        long high = a;
        long low = b;
        // A step halves the product at the least: 128 are more than two longs can need.
        for (int i = 0; i < 128 && high != 0; i++) {
            long rest = low % high;
            low = high;
            high = rest;
        }
        return low == 0 ? 1 : low;
    }

    private int overHere() {
        return ground.isOver(now.place()) ? 1 : 0;
    }

    private int factOfClaim(int x, int what) {
        switch (what) {
            case 0:
                return plan.kinds[x];
            case 1:
                return plan.reasonsFor(x);
            case 2:
                return plan.reasonsWith(x);
            case 3:
                return bit(ground.standing(), x);
            default:
                return bit(now.away, x);
        }
    }

    private int factOfReason(int k, int what) {
        switch (what) {
            case 0:
                return plan.claimOf[k];
            case 1:
                return plan.parts[k];
            default:
                return now.sureness[k];
        }
    }

    private int howMany(int what) {
        switch (what) {
            case 0:
                return plan.claims;
            case 1:
                return plan.reasons;
            case 2:
                return now.answers();
            case 3:
                return Integer.bitCount(now.away);
            case 4:
                return Integer.bitCount(now.known);
            case 5:
                return Integer.bitCount(plan.bitsOf(END));
            case 6:
                return rowsThere();
            case 7:
                return textsThere();
            default:
                return imagesThere();
        }
    }

    private int rowsThere() {
        int there = 0;
        for (int r = 0; r < ROWS; r++) {
            there += rows[r].isMissing() ? 0 : 1;
        }
        return there;
    }

    private int textsThere() {
        int there = 0;
        for (int t = 0; t < TEXTS; t++) {
            there += texts[t].isMissing() ? 0 : 1;
        }
        return there;
    }

    private int imagesThere() {
        int there = 0;
        for (int k = 0; k < IMAGES; k++) {
            there += images[k].isKept ? 1 : 0;
        }
        return there;
    }

    /** 0, if a ROW tells an EVENING that can be looked at; else the refusal, in the document's order. */
    private int refusalOfTale(int r) {
        if (!isRow(r)) {
            return BAD;
        }
        if (plan.claims == 0) {
            return STATE;
        }
        if (rows[r].isMissing()) {
            return refuse(NOTHING);
        }
        int size = rows[r].size;
        if (size % 2 == 0 || size > 1 + 2 * PAIRS_MOST) {
            return refuse(SIZE);
        }
        for (int i = 0; i < size; i++) {
            int number = rows[r].cells[i];
            if (i % 2 == 1 ? !isReason(number) : !isClaim(number)) {
                return refuse(UNLIKE);
            }
        }
        return 0;
    }

    private long withFacts(long before) {
        long h = before;
        for (int x = 0; x < plan.claims; x++) {
            for (int what = 0; what < CLAIM_FACTS; what++) {
                h = 31 * h + factOfClaim(x, what);
            }
        }
        for (int k = 0; k < plan.reasons; k++) {
            for (int what = 0; what < REASON_FACTS; what++) {
                h = 31 * h + factOfReason(k, what);
            }
        }
        return h;
    }

    private long withEvening(long before) {
        long h = before;
        if (!now.hasEvening()) {
            return 31 * h + MISSING;
        }
        for (int i = 0; i < now.trailSize; i++) {
            h = 31 * h + now.trail[i];
        }
        return h;
    }

    private static long withRow(long before, Row row) {
        long h = 31 * before + row.size;
        for (int i = 0; i < row.size; i++) {
            h = 31 * h + row.cells[i];
        }
        return h;
    }

    private static long withText(long before, Text text) {
        long h = 31 * before + text.size;
        for (int i = 0; i < text.size; i++) {
            h = 31 * h + text.signs[i];
        }
        return h;
    }

    private static final class Row {
        final int[] cells = new int[ROW_MOST];
        int size = MISSING;

        boolean isMissing() {
            return size == MISSING;
        }

        void renew(int n) {
            size = n;
            Arrays.fill(cells, 0);
        }

        void take(int[] from, int n) {
            renew(n);
            for (int i = 0; i < n && i < ROW_MOST && i < from.length; i++) {
                cells[i] = from[i];
            }
        }

        boolean spans(int i, int n) {
            return i >= 0 && n <= size && i <= size - n;
        }

        long sum() {
            long sum = 0;
            for (int i = 0; i < size; i++) {
                sum += cells[i];
            }
            return sum;
        }
    }

    private static final class Text {
        final byte[] signs = new byte[TEXT_MOST];
        int size = MISSING;

        boolean isMissing() {
            return size == MISSING;
        }

        void renew(int n) {
            size = n;
            Arrays.fill(signs, (byte) ' ');
        }

        /** NONE behind the end: no byte of a TEXT that matters is below 0. */
        int signAt(int i) {
            return i >= 0 && i < size ? signs[i] : NONE;
        }

        int figureAt(int i) {
            int sign = signAt(i);
            return sign >= '0' && sign <= '9' ? sign - '0' : NONE;
        }
    }

    /** What a TEXT says: CLAIMS and the REASONS for them. */
    private static final class Scheme {
        final int[] kinds = new int[CLAIMS_MOST];
        private final int[] kindBits = new int[KINDS];
        final int[] claimOf = new int[REASONS_MOST];
        final int[] parts = new int[REASONS_MOST];
        final int[] sureness = new int[REASONS_MOST];
        int claims;
        int reasons;

        void clear() {
            claims = 0;
            reasons = 0;
            Arrays.fill(kindBits, 0);
        }

        void become(Scheme other) {
            claims = other.claims;
            reasons = other.reasons;
            System.arraycopy(other.kinds, 0, kinds, 0, CLAIMS_MOST);
            System.arraycopy(other.kindBits, 0, kindBits, 0, KINDS);
            System.arraycopy(other.claimOf, 0, claimOf, 0, REASONS_MOST);
            System.arraycopy(other.parts, 0, parts, 0, REASONS_MOST);
            System.arraycopy(other.sureness, 0, sureness, 0, REASONS_MOST);
        }

        boolean addClaim(int kind) {
            if (claims >= CLAIMS_MOST || kind < 0 || kind >= KINDS) {
                return false;
            }
            kinds[claims] = kind;
            kindBits[kind] |= 1 << claims;
            claims++;
            return true;
        }

        boolean addReason(int claim, int partBits, int howSure) {
            if (reasons >= REASONS_MOST) {
                return false;
            }
            claimOf[reasons] = claim;
            parts[reasons] = partBits;
            sureness[reasons] = howSure;
            reasons++;
            return true;
        }

        boolean takesReason(int x) {
            return x >= 0 && x < claims && !has(bitsOf(END), x)
                    && Integer.bitCount(reasonsFor(x)) < REASONS_EACH;
        }

        int allBits() {
            return (1 << claims) - 1;
        }

        /** CLAIMS that are of a KIND: a LOST is an END, too, a MACHINE an ACT, all are CLAIMS. */
        int bitsOf(int kind) {
            switch (kind) {
                case END:
                    return kindBits[END] | kindBits[LOST];
                case LOST:
                    return kindBits[LOST];
                case ACT:
                    return kindBits[ACT] | kindBits[MACHINE];
                case HARD:
                    return kindBits[HARD];
                case MACHINE:
                    return kindBits[MACHINE];
                default:
                    return allBits();
            }
        }

        int reasonsFor(int x) {
            int bits = 0;
            for (int k = 0; k < reasons; k++) {
                bits |= claimOf[k] == x ? 1 << k : 0;
            }
            return bits;
        }

        int reasonsWith(int x) {
            int bits = 0;
            for (int k = 0; k < reasons; k++) {
                bits |= has(parts[k], x) ? 1 << k : 0;
            }
            return bits;
        }
    }

    /** Reads a TEXT into a draft; where it can't go on, it stays: there is the FAULT. */
    private static final class Reader {
        final Scheme draft = new Scheme();
        private int place;

        int faultOf(Text text) {
            draft.clear();
            place = 0;
            // An item takes a byte at the least.
            for (int item = 0; item <= TEXT_MOST; item++) {
                passBlanks(text);
                if (place >= text.size) {
                    return draft.claims == 0 ? text.size : NONE;
                }
                if (!readItem(text)) {
                    return place;
                }
            }
            return place;
        }

        private void passBlanks(Text text) {
            for (int i = 0; i < TEXT_MOST && text.signAt(place) == ' '; i++) {
                place++;
            }
        }

        private boolean readItem(Text text) {
            int sign = text.signAt(place);
            if (sign == 'b') {
                return readReason(text);
            }
            int kind = kindOf(sign);
            if (kind == NONE || draft.reasons > 0 || !draft.addClaim(kind)) {
                return false;
            }
            place++;
            return true;
        }

        private boolean readReason(Text text) {
            if (draft.claims == 0 || draft.reasons >= REASONS_MOST) {
                return false;
            }
            place++;
            int claim = text.figureAt(place);
            if (!draft.takesReason(claim)) {
                return false;
            }
            place++;
            int many = text.figureAt(place);
            if (many < 1 || many > PARTS_MOST) {
                return false;
            }
            place++;
            int parts = readParts(text, claim, many);
            int howSure = text.figureAt(place);
            if (parts == 0 || howSure < 1) {
                return false;
            }
            place++;
            return draft.addReason(claim, parts, howSure);
        }

        /** Bits; 0, if one of them can't be. */
        private int readParts(Text text, int claim, int many) {
            int parts = 0;
            for (int i = 0; i < many; i++) {
                int part = text.figureAt(place);
                if (part < 0 || part >= draft.claims || part == claim || has(parts, part)) {
                    return 0;
                }
                parts |= 1 << part;
                place++;
            }
            return parts;
        }

        private static int kindOf(int sign) {
            switch (sign) {
                case 'c':
                    return 0;
                case 'e':
                    return END;
                case 'l':
                    return LOST;
                case 'a':
                    return ACT;
                case 'h':
                    return HARD;
                case 'm':
                    return MACHINE;
                default:
                    return NONE;
            }
        }
    }

    /** What changes in a ROOM, and what an image keeps of it. */
    private static final class State {
        final int[] sureness = new int[REASONS_MOST];
        final int[] trail = new int[ANSWERS_MOST + 1];
        // How many CLAIMS were asked of: one more than ANSWERS, 0 without an EVENING.
        int trailSize;
        int away;
        int known;
        int law;
        boolean isKept;

        void renew(Scheme plan) {
            trailSize = 0;
            away = 0;
            known = 0;
            law = 0;
            System.arraycopy(plan.sureness, 0, sureness, 0, REASONS_MOST);
        }

        void become(State other) {
            trailSize = other.trailSize;
            away = other.away;
            known = other.known;
            law = other.law;
            System.arraycopy(other.sureness, 0, sureness, 0, REASONS_MOST);
            System.arraycopy(other.trail, 0, trail, 0, ANSWERS_MOST + 1);
        }

        boolean hasEvening() {
            return trailSize > 0;
        }

        int answers() {
            return trailSize > 0 ? trailSize - 1 : 0;
        }

        int place() {
            return trailSize > 0 && trailSize <= trail.length ? trail[trailSize - 1] : 0;
        }

        void open(int x) {
            trail[0] = x;
            trailSize = 1;
        }

        void goTo(int x) {
            if (trailSize < trail.length) {
                trail[trailSize] = x;
                trailSize++;
            }
        }

        void cutTo(int answers) {
            if (trailSize > 0) {
                trailSize = answers + 1;
            }
        }

        /** CLAIMS that may not be asked of again; none without the LAW. */
        int barredBits() {
            int bits = 0;
            for (int i = 0; i < trailSize; i++) {
                bits |= 1 << trail[i];
            }
            return law == 1 ? bits : 0;
        }
    }

    /** What is USABLE, AT A LOSS, what STANDS, and what can be reached. */
    private static final class Ground {
        private final Scheme plan;
        private final State now;

        Ground(Scheme plan, State now) {
            this.plan = plan;
            this.now = now;
        }

        boolean isUsable(int k) {
            return !has(now.away, plan.claimOf[k]) && (plan.parts[k] & now.away) == 0;
        }

        int usableFor(int x) {
            int bits = 0;
            for (int k = 0; k < plan.reasons; k++) {
                bits |= plan.claimOf[k] == x && isUsable(k) ? 1 << k : 0;
            }
            return bits;
        }

        int lossBits() {
            int bits = plan.allBits() & ~plan.bitsOf(END);
            for (int k = 0; k < plan.reasons; k++) {
                bits &= isUsable(k) ? ~(1 << plan.claimOf[k]) : ~0;
            }
            return bits | plan.bitsOf(LOST);
        }

        boolean isOver(int x) {
            return has(lossBits() | plan.bitsOf(END), x);
        }

        int openReasons(int x, int barred) {
            int bits = 0;
            for (int k = 0; k < plan.reasons; k++) {
                boolean open = plan.claimOf[k] == x && isUsable(k) && (plan.parts[k] & ~barred) != 0;
                bits |= open ? 1 << k : 0;
            }
            return bits;
        }

        boolean canGo(int x, int k, int part, int barred) {
            return has(openReasons(x, barred), k) && has(plan.parts[k] & ~barred, part);
        }

        /** A LOST is an END, but counts as a loss. */
        int wayOut(int x, int barred) {
            if (has(lossBits(), x)) {
                return AT_LOSS;
            }
            if (has(plan.bitsOf(END), x)) {
                return AT_END;
            }
            return openReasons(x, barred) == 0 ? BARRED : GOES_ON;
        }

        int standing() {
            return standingBy(now.away, ~0);
        }

        int standingBy(int gone, int reasons) {
            int firm = plan.bitsOf(END) & ~plan.bitsOf(LOST) & ~gone;
            boolean grows = true;
            for (int round = 0; grows && round <= CLAIMS_MOST; round++) {
                int before = firm;
                for (int k = 0; k < plan.reasons; k++) {
                    boolean holds = has(reasons, k) && (plan.parts[k] & ~firm) == 0;
                    firm |= holds ? 1 << plan.claimOf[k] & ~gone : 0;
                }
                grows = firm != before;
            }
            return firm;
        }

        int fallingWithout(int x) {
            return standing() & ~standingBy(now.away | 1 << x, ~0) & ~(1 << x);
        }

        /** CLAIMS that can be asked of next from a CLAIM. */
        int nextOf(int x) {
            int bits = 0;
            for (int k = 0; k < plan.reasons; k++) {
                bits |= plan.claimOf[k] == x && isUsable(k) ? plan.parts[k] : 0;
            }
            return bits;
        }

        int reachOf(int x) {
            int reach = 1 << x;
            boolean grows = true;
            for (int round = 0; grows && round <= CLAIMS_MOST; round++) {
                int before = reach;
                for (int k = 0; k < plan.reasons; k++) {
                    reach |= has(reach, plan.claimOf[k]) && isUsable(k) ? plan.parts[k] : 0;
                }
                grows = reach != before;
            }
            return reach;
        }

        int settledFrom(int x) {
            int bits = reachOf(x);
            for (int y = 0; y < plan.claims; y++) {
                bits &= Integer.bitCount(usableFor(y)) > 1 ? ~(1 << y) : ~0;
            }
            return bits;
        }

        int thinnestFrom(int x) {
            int candidates = reachOf(x) & ~plan.bitsOf(END);
            int thinnest = NONE;
            int fewest = FAR;
            for (int y = 0; y < plan.claims; y++) {
                int many = Integer.bitCount(usableFor(y));
                if (has(candidates, y) && many < fewest) {
                    thinnest = y;
                    fewest = many;
                }
            }
            return thinnest;
        }
    }

    /** The least ways from CLAIMS to ENDS, and the longest without a CLAIM twice. */
    private static final class Ways {
        final int[] longTrail = new int[CLAIMS_MOST];
        private final Scheme plan;
        private final State now;
        private final Ground ground;
        private final int[] cost = new int[CLAIMS_MOST];
        private final int[] next = new int[CLAIMS_MOST];
        private final int[] trail = new int[CLAIMS_MOST];
        private int longestYet;

        Ways(Scheme plan, State now, Ground ground) {
            this.plan = plan;
            this.now = now;
            this.ground = ground;
        }

        /** What the least way from a CLAIM to ENDS costs; NONE, if it does not STAND. */
        int leastFrom(int x, int measure) {
            int standing = ground.standing();
            for (int y = 0; y < plan.claims; y++) {
                cost[y] = has(standing & plan.bitsOf(END), y) ? 0 : FAR;
            }
            boolean changes = true;
            // The least way meets no CLAIM twice, so its height is below how many there are.
            for (int round = 0; changes && round <= CLAIMS_MOST; round++) {
                changes = relax(standing, measure);
            }
            return has(standing, x) ? cost[x] : NONE;
        }

        /** The first REASON by which a CLAIM has the cost that leastFrom() found; NONE for an END. */
        int firstLeast(int x, int measure) {
            int standing = ground.standing();
            for (int k = 0; k < plan.reasons; k++) {
                if (plan.claimOf[k] == x && isFirm(k, standing) && costBy(k, measure) == cost[x]) {
                    return k;
                }
            }
            return NONE;
        }

        private boolean relax(int standing, int measure) {
            boolean changes = false;
            for (int k = 0; k < plan.reasons; k++) {
                int y = plan.claimOf[k];
                if (isFirm(k, standing)) {
                    int by = costBy(k, measure);
                    changes = changes || by < cost[y];
                    cost[y] = Math.min(cost[y], by);
                }
            }
            return changes;
        }

        private boolean isFirm(int k, int standing) {
            return ground.isUsable(k) && (plan.parts[k] & ~standing) == 0;
        }

        private int costBy(int k, int measure) {
            int worst = 0;
            int sum = 0;
            for (int part = 0; part < plan.claims; part++) {
                if (has(plan.parts[k], part)) {
                    worst = Math.max(worst, cost[part]);
                    sum += cost[part];
                }
            }
            if (worst >= FAR) {
                return FAR;
            }
            switch (measure) {
                case BY_LENGTH:
                    return 1 + worst;
                case BY_ANSWERS:
                    return Math.min(STEPS_MOST, 1 + sum);
                default:
                    return Math.max(worst, SUREST - now.sureness[k]);
            }
        }

        int longestFrom(int x) {
            for (int y = 0; y < plan.claims; y++) {
                next[y] = ground.nextOf(y);
            }
            longestYet = MISSING;
            goFurther(x, 0, ground.reachOf(x) & ~(1 << x));
            return longestYet;
        }

        /** Least CLAIMS first, and only what is longer replaces: so the first such row stays. */
        private void goFurther(int x, int depth, int free) {
            if (depth >= CLAIMS_MOST || depth + Integer.bitCount(free) <= longestYet) {
                return;
            }
            trail[depth] = x;
            if (depth > longestYet) {
                longestYet = depth;
                System.arraycopy(trail, 0, longTrail, 0, depth + 1);
            }
            for (int y = 0; y < plan.claims; y++) {
                if (has(next[x] & free, y)) {
                    goFurther(y, depth + 1, free & ~(1 << y));
                }
            }
        }
    }

    /** Where a CHILD can bring whoever answers to a loss. */
    private static final class Losses {
        private final Scheme plan;
        private final Ground ground;
        private final int[] answers = new int[CLAIMS_MOST];

        Losses(Scheme plan, Ground ground) {
            this.plan = plan;
            this.ground = ground;
        }

        int losingBits() {
            int losing = ground.lossBits();
            for (int x = 0; x < plan.claims; x++) {
                answers[x] = has(losing, x) ? 0 : NONE;
            }
            boolean grows = true;
            for (int round = 1; grows && round <= CLAIMS_MOST; round++) {
                int more = forcedInto(losing) & ~losing;
                for (int x = 0; x < plan.claims; x++) {
                    answers[x] = has(more, x) ? round : answers[x];
                }
                losing |= more;
                grows = more != 0;
            }
            return losing;
        }

        /** CLAIMS, no ENDS, each USABLE REASON for which has a PART among these. */
        private int forcedInto(int losing) {
            int bits = plan.allBits() & ~plan.bitsOf(END);
            for (int k = 0; k < plan.reasons; k++) {
                boolean escapes = ground.isUsable(k) && (plan.parts[k] & losing) == 0;
                bits &= escapes ? ~(1 << plan.claimOf[k]) : ~0;
            }
            return bits;
        }

        int answersToLoss(int x) {
            losingBits();
            return answers[x];
        }

        int safeReason(int x) {
            int losing = losingBits();
            for (int k = 0; k < plan.reasons; k++) {
                if (plan.claimOf[k] == x && ground.isUsable(k) && (plan.parts[k] & losing) == 0) {
                    return k;
                }
            }
            return NONE;
        }
    }

    /** WORDS, CLAIMS and ACTS that a CLAIM needs to STAND. */
    private static final class Needs {
        private final Scheme plan;
        private final State now;
        private final Ground ground;
        // A bit for each set of CLAIMS: whether the CLAIM looked at STANDS by it and itself alone.
        private final int[] enough = new int[(1 << CLAIMS_MOST) / BITS];

        Needs(Scheme plan, State now, Ground ground) {
            this.plan = plan;
            this.now = now;
            this.ground = ground;
        }

        /** The fewest WORDS, of as few the least; for a CLAIM that STANDS. */
        int wordsFor(int x) {
            int unknown = plan.bitsOf(HARD) & ~now.known;
            // What can't be reached or does not STAND helps no CLAIM to STAND.
            int useful = unknown & ground.reachOf(x) & ground.standing();
            int best = useful;
            int learnt = 0;
            for (int i = 0; i < 1 << CLAIMS_MOST; i++) {
                if (Integer.bitCount(learnt) < Integer.bitCount(best)
                        && has(ground.standingBy(now.away | unknown & ~learnt, ~0), x)) {
                    best = learnt;
                }
                if (learnt == useful) {
                    break;
                }
                learnt = nextSubset(learnt, useful);
            }
            return best;
        }

        /** The fewest CLAIMS, of as few the least, without which a CLAIM falls; 0: not so few. */
        int fellingOf(int x) {
            int useful = ground.reachOf(x) & ground.standing() & ~(1 << x);
            int best = 0;
            int fewest = FALLS_MOST + 1;
            int taken = 0;
            for (int i = 0; i < 1 << CLAIMS_MOST; i++) {
                if (Integer.bitCount(taken) < fewest && !has(ground.standingBy(now.away | taken, ~0), x)) {
                    best = taken;
                    fewest = Integer.bitCount(taken);
                }
                if (taken == useful) {
                    break;
                }
                taken = nextSubset(taken, useful);
            }
            return best;
        }

        int actsEachWay(int x) {
            int acts = plan.bitsOf(ACT);
            int needed = 0;
            for (int y = 0; y < plan.claims; y++) {
                if (has(acts, y) && !has(ground.standingBy(now.away | 1 << y, ~0), x)) {
                    needed |= 1 << y;
                }
            }
            return needed;
        }

        /** ACTS in some least set by which alone a CLAIM that STANDS does so; itself is in each. */
        int actsSomeWay(int x) {
            Arrays.fill(enough, 0);
            int own = 1 << x;
            int useful = ground.reachOf(x) & ground.standing() & ~own;
            int used = own;
            int others = 0;
            for (int i = 0; i < 1 << CLAIMS_MOST; i++) {
                boolean spare = isEnoughWithOneLess(others);
                boolean holds = spare || has(ground.standingBy(~(others | own), ~0), x);
                used |= holds && !spare ? others : 0;
                markEnough(others, holds);
                if (others == useful) {
                    break;
                }
                others = nextSubset(others, useful);
            }
            return used & plan.bitsOf(ACT);
        }

        /** Subsets come as ascending numbers, so those with one CLAIM less were looked at before. */
        private static int nextSubset(int subset, int whole) {
            return subset - whole & whole;
        }

        private boolean isEnoughWithOneLess(int set) {
            for (int y = 0; y < plan.claims; y++) {
                if (has(set, y) && isEnough(set & ~(1 << y))) {
                    return true;
                }
            }
            return false;
        }

        private boolean isEnough(int set) {
            int cell = set / BITS;
            return cell >= 0 && cell < enough.length && has(enough[cell], set % BITS);
        }

        private void markEnough(int set, boolean holds) {
            int cell = set / BITS;
            if (holds && cell >= 0 && cell < enough.length) {
                enough[cell] |= 1 << set % BITS;
            }
        }
    }

    /** EVENINGS told in a ROW: a CLAIM, then pairs; the face has looked at every number of it. */
    private static final class Tale {
        private final Scheme plan;
        private final State now;
        private final Ground ground;
        int wayOut;
        int firstLie;

        Tale(Scheme plan, State now, Ground ground) {
            this.plan = plan;
            this.now = now;
            this.ground = ground;
        }

        /** How many pairs could be, one after the other; wayOut is how it was then. */
        int goodPairs(Row row) {
            int x = row.cells[0];
            int asked = 1 << x;
            int pairs = row.size / 2;
            int good = 0;
            for (int i = 0; i < pairs; i++) {
                int k = row.cells[2 * i + 1];
                int part = row.cells[2 * i + 2];
                if (!ground.canGo(x, k, part, now.law == 1 ? asked : 0)) {
                    break;
                }
                good++;
                x = part;
                asked |= 1 << x;
            }
            wayOut = ground.wayOut(x, now.law == 1 ? asked : 0);
            return good;
        }

        int reasonsIn(Row row) {
            int bits = 0;
            for (int i = 1; i < row.size; i += 2) {
                bits |= 1 << row.cells[i];
            }
            return bits;
        }

        /** CLAIMS asked of, and PARTS of what was ANSWERED. */
        int claimsIn(Row row) {
            int bits = 0;
            for (int i = 0; i < row.size; i++) {
                int number = row.cells[i];
                bits |= i % 2 == 1 ? plan.parts[number] : 1 << number;
            }
            return bits;
        }

        /** How many ANSWERS are no REASONS for what was asked of; firstLie is the first such pair. */
        int liesIn(Row row) {
            int lies = 0;
            firstLie = NONE;
            for (int i = 1; i < row.size; i += 2) {
                if (plan.claimOf[row.cells[i]] != row.cells[i - 1]) {
                    firstLie = lies == 0 ? i / 2 : firstLie;
                    lies++;
                }
            }
            return lies;
        }
    }

    /** Rows of ANSWERS counted, chances, and an EVENING by a seed. */
    private static final class Lots {
        private final Scheme plan;
        private final State now;
        private final Ground ground;
        private final long[] share = new long[CLAIMS_MOST];
        private final long[] shareBefore = new long[CLAIMS_MOST];
        // At ten times a CLAIM and a PART: how many USABLE REASONS lead from one to the other.
        private final int[] links = new int[CLAIMS_MOST * CLAIMS_MOST];

        Lots(Scheme plan, State now, Ground ground) {
            this.plan = plan;
            this.now = now;
            this.ground = ground;
        }

        int rowsBetween(int x, int y, int n) {
            countLinks();
            return rowsOn(x, y, n, now.law == 1 ? 1 << x : 0);
        }

        private void countLinks() {
            Arrays.fill(links, 0);
            for (int k = 0; k < plan.reasons; k++) {
                for (int part = 0; part < plan.claims; part++) {
                    boolean leads = ground.isUsable(k) && has(plan.parts[k], part);
                    links[CLAIMS_MOST * plan.claimOf[k] + part] += leads ? 1 : 0;
                }
            }
        }

        private int rowsOn(int x, int y, int left, int barred) {
            if (left <= 0) {
                return x == y ? 1 : 0;
            }
            int rows = 0;
            for (int part = 0; part < plan.claims; part++) {
                int ways = has(barred, part) ? 0 : links[CLAIMS_MOST * x + part];
                if (ways > 0) {
                    rows += ways * rowsOn(part, y, left - 1, now.law == 1 ? barred | 1 << part : 0);
                }
            }
            return rows;
        }

        /** Chances of a loss within n ANSWERS, as so many of LOTS to the n. */
        long shareOfLoss(int x, int n) {
            int loss = ground.lossBits();
            long whole = 1;
            for (int y = 0; y < plan.claims; y++) {
                share[y] = bit(loss, y);
            }
            for (int i = 0; i < n; i++) {
                whole *= LOTS;
                System.arraycopy(share, 0, shareBefore, 0, CLAIMS_MOST);
                for (int y = 0; y < plan.claims; y++) {
                    share[y] = has(loss, y) ? whole : shareByReasons(y);
                }
            }
            return share[x];
        }

        private long shareByReasons(int x) {
            int usable = ground.usableFor(x);
            int reasons = Integer.bitCount(usable);
            long sum = 0;
            for (int k = 0; k < plan.reasons; k++) {
                int pieces = reasons * Integer.bitCount(plan.parts[k]);
                if (has(usable, k) && pieces > 0) {
                    sum += LOTS / pieces * shareByParts(k);
                }
            }
            return sum;
        }

        private long shareByParts(int k) {
            long sum = 0;
            for (int part = 0; part < plan.claims; part++) {
                sum += has(plan.parts[k], part) ? shareBefore[part] : 0;
            }
            return sum;
        }

        /** ANSWERS by a seed, till none may be: how many. */
        int goOn(int n, int seed) {
            long number = seed;
            for (int done = 0; done < n; done++) {
                int barred = now.barredBits();
                int reasons = ground.openReasons(now.place(), barred);
                if (reasons == 0) {
                    return done;
                }
                number = number * SEED_TIMES % SEED_ROUND;
                int k = drawn(reasons, number);
                now.goTo(drawn(plan.parts[k] & ~barred, number / PART_SHARE));
            }
            return n;
        }

        /** The one of a set at a number modulo its size, the least first. */
        private static int drawn(int bits, long number) {
            int many = Integer.bitCount(bits);
            long left = many == 0 ? 0 : number % many;
            for (int i = 0; i < BITS; i++) {
                if (has(bits, i)) {
                    if (left == 0) {
                        return i;
                    }
                    left--;
                }
            }
            return 0;
        }
    }
}
