import java.math.BigInteger;

/** Promises 42 to 47 at their edges: EVENINGS told in ROWS, rows of ANSWERS counted, chances, nights. */
public final class EdgeTalesTest {
    private static final int NONE = Edges.NONE, MAX = Edges.MAX;
    private static final int NOTHING = Edges.NOTHING, UNLIKE = Edges.UNLIKE, SIZE = Edges.SIZE;
    private static final Edges edges = new Edges();
    private static final String CHAIN = "b0119b1129b2139b3149b4159b5169b6179b7189b8199";
    private static final String WAY_OUT = "cceb0119b1109b0129";

    public static void main(String[] args) {
        for (int promise = 42; promise <= 44; promise++) {
            refusedTale(promise);
            sizesOfATale(promise);
            numbersOfATale(promise);
            taleChangesNothing(promise);
        }
        judge();
        judgeByTheLaw();
        held();
        lied();
        fits();
        fitsByTheLaw();
        odds();
        oddsInLowestTerms();
        night();
        nightFull();
        nightTillNoneMayBe();
        nightBySeeds();
        edges.end(42, 47);
    }

    private static long told(int promise, WhyRoom x, int r) {
        return promise == 42 ? x.judge(r) : promise == 43 ? x.held(r) : x.lied(r);
    }

    private static WhyRoom tale(WhyRoom x, int... numbers) {
        Edges.tell(x, 3, numbers);
        return x;
    }

    private static WhyRoom lawful(WhyRoom x) {
        x.law(1);
        return x;
    }

    private static WhyRoom without(WhyRoom x, int claim) {
        x.away(claim, 1);
        return x;
    }

    /** Round and round, so many pairs. */
    private static int[] rounds(int pairs) {
        int[] numbers = new int[1 + 2 * pairs];
        for (int i = 0; i < pairs; i++) {
            numbers[2 * i + 1] = i % 2;
            numbers[2 * i + 2] = (i + 1) % 2;
        }
        return numbers;
    }

    // ---- promises 42, 43, 44: what is refused, in this order

    private static void refusedTale(int promise) {
        edges.range(promise, "row", Edges::rich, (x, r) -> told(promise, x, r), 0, 5);
        edges.bad(promise, "BAD ahead of STATE", WhyRoom::new, x -> told(promise, x, 6));
        edges.state(promise, "no claims, ahead of NOTHING", WhyRoom::new, x -> told(promise, x, 3));
        edges.state(promise, "no claims, ahead of SIZE", () -> tale(new WhyRoom()), x -> told(promise, x, 3));
        edges.state(promise, "no claims, ahead of UNLIKE", () -> tale(new WhyRoom(), 0), x -> told(promise, x, 3));
        edges.finds(promise, "missing", Edges::rich, x -> told(promise, x, 4), NOTHING);
        edges.finds(promise, "missing, no evening", () -> Edges.of("e"), x -> told(promise, x, 0), NOTHING);
        edges.finds(promise, "empty", Edges::rich, x -> told(promise, x, 1), SIZE);
        edges.finds(promise, "forty", Edges::rich, x -> told(promise, x, 0), SIZE);
        edges.finds(promise, "SIZE ahead of UNLIKE", () -> tale(Edges.rich(), -1, -1), x -> told(promise, x, 3), SIZE);
        edges.finds(promise, "SIZE ahead of UNLIKE", () -> tale(Edges.rich(), many(33, 99)), x -> told(promise, x, 3), SIZE);
    }

    private static int[] many(int n, int v) {
        int[] numbers = new int[n];
        java.util.Arrays.fill(numbers, v);
        return numbers;
    }

    private static void sizesOfATale(int promise) {
        for (int size = 0; size <= 40; size++) {
            int[] numbers = many(size, 0);
            Edges.Ready ready = () -> tale(Edges.of(Edges.ROUND), numbers);
            if (size % 2 == 1 && size <= 31) {
                long got = told(promise, ready.make(), 3);
                edges.is(promise, "a tale of " + size, got >= 0 ? 1 : got, 1);
            } else {
                edges.finds(promise, "a tale of " + size, ready, x -> told(promise, x, 3), SIZE);
            }
        }
    }

    /** Ten CLAIMS and fourteen REASONS: in its place each number is one, and the next is none. */
    private static void numbersOfATale(int promise) {
        for (int place : new int[] {0, 1, 2, 29, 30}) {
            int most = place % 2 == 0 ? 9 : 13;
            for (int no : new int[] {-1, most + 1, MAX, Edges.MIN}) {
                edges.finds(promise, no + " at " + place, () -> spoilt(place, no), x -> told(promise, x, 3), UNLIKE);
            }
            for (int yes : new int[] {0, most}) {
                long got = told(promise, spoilt(place, yes), 3);
                edges.is(promise, yes + " at " + place, got >= 0 ? 1 : got, 1);
            }
        }
        edges.finds(promise, "no reason at all", () -> tale(Edges.of("ce"), 0, 0, 1), x -> told(promise, x, 3), UNLIKE);
    }

    private static WhyRoom spoilt(int place, int number) {
        int[] numbers = many(31, 0);
        numbers[place] = number;
        return tale(Edges.most(), numbers);
    }

    private static void taleChangesNothing(int promise) {
        WhyRoom x = Edges.rich();
        long before = x.digest();
        edges.is(promise, "told", told(promise, x, 2) >= 0 ? 1 : 0, 1);
        edges.is(promise, "changes nothing", x.digest(), before);
        edges.is(promise, "finds nothing", x.finding(), Edges.rich().finding());
    }

    // ---- promise 42

    private static void judged(String what, WhyRoom x, int pairs, int asked, int... numbers) {
        tale(x, numbers);
        edges.is(42, what, x.judge(3), pairs);
        edges.is(42, what + ", asked()", x.asked(), asked);
    }

    private static void judge() {
        judged("no pair, goes on", Edges.of(WAY_OUT), 0, 0, 1);
        judged("no pair, an end", Edges.of(WAY_OUT), 0, 1, 2);
        judged("no pair, a lost", Edges.of("cl"), 0, 2, 1);
        judged("no pair, at a loss", Edges.of("cl"), 0, 2, 0);
        judged("no pair, taken away", without(Edges.of(WAY_OUT), 1), 0, 2, 1);
        judged("one pair", Edges.of(WAY_OUT), 1, 1, 0, 2, 2);
        judged("one that could not be", Edges.of(WAY_OUT), 0, 0, 0, 2, 1);
        judged("for another", Edges.of(WAY_OUT), 0, 0, 0, 1, 0);
        judged("the part taken away", without(Edges.of(WAY_OUT), 2), 0, 0, 0, 2, 2);
        judged("none usable then", without(Edges.of("ceb0119"), 1), 0, 2, 0, 0, 1);
        judged("fifteen", Edges.of(WAY_OUT), 15, 0, rounds(15));
        int[] last = rounds(15);
        last[30] = 2;
        judged("the fifteenth could not be", Edges.of(WAY_OUT), 14, 0, last);
        int[] first = rounds(15);
        first[2] = 0;
        judged("the first could not be", Edges.of(WAY_OUT), 0, 0, first);
        judged("nothing behind the row's end", Edges.of("ccb1109"), 0, 0, 1);
        judged("nothing behind the row's end", Edges.of("ccb0119b1109"), 1, 0, 0, 0, 1);
        judged("behind an end", Edges.of(WAY_OUT), 1, 1, 0, 2, 2, 0, 1);
        judged("behind a loss", Edges.of("cclb02129"), 1, 2, 0, 0, 1, 0, 2);
        judged("the evening there is is nothing to it", Edges.after(WAY_OUT, 39), 1, 1, 0, 2, 2);
        judged("by reason 13", Edges.most(), 2, 1, 8, 13, 0, 3, 9);
    }

    private static void judgeByTheLaw() {
        judged("the law bars the second", lawful(Edges.of(Edges.ROUND)), 1, 3, rounds(15));
        judged("where it began is barred", lawful(Edges.of(WAY_OUT)), 1, 3, 0, 0, 1, 1, 0);
        judged("not each is barred", lawful(Edges.of(WAY_OUT + "b1129")), 1, 0, 0, 0, 1, 1, 0);
        judged("the other is not", lawful(Edges.of(WAY_OUT + "b1129")), 2, 1, 0, 0, 1, 3, 2);
        judged("without the law", Edges.of(WAY_OUT), 2, 0, 0, 0, 1, 1, 0);
        judged("the evening there is bars nothing", Edges.rich(), 1, 3, 6, 6, 8, 7, 6);
        judged("nothing but itself", lawful(Edges.after(Edges.ROUND, 5)), 1, 3, 0, 0, 1);
        judged("ten by the law", lawful(Edges.of("cccccccccc" + CHAIN + "b9109")), 9, 3, 0, 0, 1, 1, 2, 2, 3, 3, 4, 4, 5, 5, 6,
            6, 7, 7, 8, 8, 9, 9, 0);
    }

    // ---- promises 43, 44

    private static void heldIs(String what, WhyRoom x, int claims, int asked, int... numbers) {
        tale(x, numbers);
        edges.is(43, what, x.held(3), claims);
        edges.is(43, what + ", asked()", x.asked(), asked);
    }

    private static void held() {
        heldIs("no pair", Edges.of("ce"), 1, 2, 0);
        heldIs("an end", Edges.of("ce"), 2, 2, 1);
        heldIs("a lost", Edges.of("cl"), 2, 0, 1);
        heldIs("the end taken away", without(Edges.of("ce"), 1), 1, 0, 0);
        heldIs("one pair", Edges.of("ceb0119"), 3, 3, 0, 0, 1);
        heldIs("parts not asked of", Edges.of("ceeb02129"), 7, 7, 0, 0, 1);
        heldIs("what could not be, too", Edges.of("ceeb0119"), 7, 7, 2, 0, 0);
        heldIs("the highest", Edges.most(), 0x301, 0x301, 8, 13, 0, 3, 9);
        heldIs("not by other reasons", Edges.most(), 0x101, 0x200, 8, 13, 0);
        heldIs("on a round", Edges.of(WAY_OUT), 3, 4, rounds(15));
        heldIs("by a way out told last", Edges.of(WAY_OUT), 7, 7, 1, 1, 0, 2, 2);
        heldIs("the claim of an answer is not held", Edges.of(WAY_OUT), 5, 7, 0, 2, 2, 1, 0);
        heldIs("not usable", without(Edges.of("ceeb02129"), 1), 7, 4, 0, 0, 2);
        heldIs("the claim taken away", without(Edges.of("ceb0119"), 0), 3, 2, 0, 0, 1);
        heldIs("the law is nothing to it", lawful(Edges.of(WAY_OUT)), 7, 7, 1, 1, 0, 0, 1, 2, 2);
    }

    private static void liedIs(String what, WhyRoom x, int lies, int asked, int... numbers) {
        tale(x, numbers);
        edges.is(44, what, x.lied(3), lies);
        edges.is(44, what + ", asked()", x.asked(), asked);
    }

    private static void lied() {
        liedIs("no pair", Edges.of("ce"), 0, NONE, 0);
        liedIs("no lie", Edges.of(WAY_OUT), 0, NONE, 0, 0, 1, 1, 0);
        liedIs("the first", Edges.of(WAY_OUT), 1, 0, 0, 1, 0);
        liedIs("the second", Edges.of(WAY_OUT), 1, 1, 0, 0, 1, 0, 1);
        liedIs("both, the first", Edges.of(WAY_OUT), 2, 0, 0, 1, 1, 0, 1);
        liedIs("no part, but no lie", Edges.of(WAY_OUT), 0, NONE, 0, 0, 2);
        liedIs("of an end all is a lie", Edges.of(WAY_OUT), 1, 1, 0, 2, 2, 0, 1);
        liedIs("not usable, but no lie", without(Edges.of(WAY_OUT), 2), 0, NONE, 0, 2, 2);
        liedIs("barred, but no lie", lawful(Edges.of(WAY_OUT)), 0, NONE, rounds(15));
        int[] last = rounds(15);
        last[29] = 1;
        liedIs("the fifteenth", Edges.of(WAY_OUT), 1, 14, last);
        int[] all = new int[31];
        java.util.Arrays.fill(all, 1);
        for (int i = 1; i < 31; i += 2) {
            all[i] = 0;
        }
        liedIs("all fifteen", Edges.of(WAY_OUT), 15, 0, all);
    }

    // ---- promise 45

    private static void fits() {
        edges.range(45, "from", Edges::most, (x, c) -> x.fits(c, 0, 1), 0, 9);
        edges.range(45, "to", Edges::most, (x, c) -> x.fits(0, c, 1), 0, 9);
        edges.range(45, "answers", Edges::rich, (x, n) -> x.fits(6, 8, n), 0, 5);
        edges.onlyTells(45, "fits", Edges::rich, x -> x.fits(6, 8, 5));
        edges.answers(45, "none, the same", Edges::most, x -> x.fits(9, 9, 0), 1);
        edges.answers(45, "none, another", Edges::most, x -> x.fits(8, 9, 0), 0);
        edges.answers(45, "one", Edges::most, x -> x.fits(0, 9, 1), 4);
        edges.answers(45, "one, by the last reason", Edges::most, x -> x.fits(8, 0, 1), 1);
        edges.answers(45, "two, by the last reason", Edges::most, x -> x.fits(8, 9, 2), 4);
        edges.answers(45, "no further than an end", Edges::most, x -> x.fits(9, 9, 1), 0);
        String both = "ccb0119b0119b0119b0119b1109b1109b1109b1109";
        edges.answers(45, "five", () -> Edges.of(both), x -> x.fits(0, 1, 5), 1024);
        edges.answers(45, "four", () -> Edges.of(both), x -> x.fits(0, 0, 4), 256);
        edges.answers(45, "not so many", () -> Edges.of(both), x -> x.fits(0, 0, 5), 0);
        edges.answers(45, "five along a chain", () -> Edges.of("cccccccccc" + CHAIN), x -> x.fits(4, 9, 5), 1);
        edges.answers(45, "four along a chain", () -> Edges.of("cccccccccc" + CHAIN), x -> x.fits(4, 9, 4), 0);
        edges.answers(45, "parts of one reason", () -> Edges.of("ccceb02129b1139b2139"), x -> x.fits(0, 3, 2), 2);
        edges.answers(45, "not usable", () -> without(Edges.of("ceeb02129b0119"), 2), x -> x.fits(0, 1, 1), 1);
        edges.answers(45, "none usable", () -> without(Edges.of("ceb0119"), 1), x -> x.fits(0, 1, 1), 0);
    }

    private static void fitsByTheLaw() {
        edges.answers(45, "none, by the law", () -> lawful(Edges.of(WAY_OUT)), x -> x.fits(0, 0, 0), 1);
        edges.answers(45, "no round by the law", () -> lawful(Edges.of(WAY_OUT)), x -> x.fits(0, 0, 2), 0);
        edges.answers(45, "a round without it", () -> Edges.of(WAY_OUT), x -> x.fits(0, 0, 2), 1);
        edges.answers(45, "round and out", () -> Edges.of(WAY_OUT), x -> x.fits(0, 2, 3), 1);
        edges.answers(45, "not by the law", () -> lawful(Edges.of(WAY_OUT)), x -> x.fits(0, 2, 3), 0);
        edges.answers(45, "by the law", () -> lawful(Edges.of(WAY_OUT)), x -> x.fits(1, 2, 2), 1);
        String later = "cccb0119b1129b2119";
        edges.answers(45, "a round later on", () -> Edges.of(later), x -> x.fits(0, 1, 3), 1);
        edges.answers(45, "not by the law", () -> lawful(Edges.of(later)), x -> x.fits(0, 1, 3), 0);
        edges.answers(45, "asked twice", () -> Edges.of(later), x -> x.fits(0, 1, 3) + x.fits(0, 1, 3), 2);
        edges.answers(45, "the evening there is bars nothing", Edges::rich, x -> x.fits(6, 8, 1), 1);
        edges.answers(45, "five by the law", () -> lawful(Edges.of("cccccccccc" + CHAIN)), x -> x.fits(0, 5, 5), 1);
    }

    // ---- promise 46

    private static void chance(String what, WhyRoom x, int claim, int n, long upper, long lower) {
        edges.is(46, what, x.odds(claim, n), 1);
        edges.is(46, what + ", upper()", x.upper(), upper);
        edges.is(46, what + ", lower()", x.lower(), lower);
    }

    private static void odds() {
        edges.range(46, "claim", Edges::most, (x, c) -> x.odds(c, 1), 0, 9);
        edges.range(46, "answers", Edges::rich, (x, n) -> x.odds(0, n), 0, 6);
        for (int n = 0; n <= 6; n++) {
            chance("a lost", Edges.of("l"), 0, n, 1, 1);
            chance("no reasons", Edges.of("c"), 0, n, 1, 1);
            chance("taken away", without(Edges.of("ceb0119"), 0), 0, n, 1, 1);
            chance("an end", Edges.of("e"), 0, n, 0, 1);
            chance("an end taken away", without(Edges.of("e"), 0), 0, n, 0, 1);
            chance("a round", Edges.of(Edges.ROUND), 0, n, 0, 1);
            chance("a chain of six", Edges.of("cccccccccc" + CHAIN), 3, n, n == 6 ? 1 : 0, 1);
            chance("a chain of seven", Edges.of("cccccccccc" + CHAIN), 2, n, 0, 1);
        }
        chance("the law is nothing to it", lawful(Edges.after("cclb0119b1109b1129", 5)), 0, 6, 7, 8);
        chance("the evening is nothing to it", Edges.rich(), 0, 2, 1, 8);
    }

    private static void oddsInLowestTerms() {
        chance("two of two", Edges.of("cllb02129"), 0, 1, 1, 1);
        chance("two of three", Edges.of("clleb031239"), 0, 1, 2, 3);
        chance("two of four", Edges.of("cleb0119b0119b0129b0129"), 0, 1, 1, 2);
        chance("usable ones alone", without(Edges.of("cleeb0119b0129b0139"), 3), 0, 1, 1, 2);
        // A twelfth is a loss, another goes on: (12 to the n - 1) by 11 times 12 to the n.
        String twelfths = "ccleeeb031239b033459b033459b033459b130239b133459b133459b133459";
        long whole = 1;
        for (int n = 0; n <= 6; n++) {
            chance("twelfths", Edges.of(twelfths), 0, n, (whole - 1) / 11, n == 0 ? 1 : whole);
            whole *= 12;
        }
        chance("elevenths of them", Edges.of(twelfths), 1, 6, 271453, 2985984);
    }

    // ---- promise 47

    private static void night() {
        edges.range(47, "answers", Edges::rich, (x, n) -> x.night(n, 1), 1, 20);
        edges.range(47, "seed", Edges::rich, (x, seed) -> x.night(1, seed), 1, 2147483646);
        edges.bad(47, "BAD ahead of STATE", () -> Edges.of("c"), x -> x.night(0, 1));
        edges.bad(47, "BAD ahead of STATE", () -> Edges.of("c"), x -> x.night(1, 0));
        edges.bad(47, "BAD ahead of FULL", () -> Edges.after(Edges.ROUND, 39), x -> x.night(21, 1));
        edges.bad(47, "BAD ahead of FULL", () -> Edges.after(Edges.ROUND, 39), x -> x.night(20, MAX));
        edges.state(47, "no evening", () -> Edges.of(Edges.ROUND), x -> x.night(1, 1));
        edges.state(47, "no claims", WhyRoom::new, x -> x.night(20, 1));
    }

    private static void nightFull() {
        for (int n = 1; n <= 20; n++) {
            int many = n;
            edges.answers(47, n + " up to 39", () -> Edges.after(Edges.ROUND, 39 - many), x -> x.night(many, 7), n);
            edges.full(47, n + " up to 40", () -> Edges.after(Edges.ROUND, 40 - many), x -> x.night(many, 7));
        }
        edges.full(47, "twenty behind 39", () -> Edges.after(Edges.ROUND, 39), x -> x.night(20, 1));
        edges.full(47, "though each is barred", () -> lawful(Edges.after(Edges.ROUND, 39)), x -> x.night(1, 1));
        edges.full(47, "though it is at a loss", () -> without(Edges.after(Edges.ROUND, 20), 0), x -> x.night(20, 1));
        WhyRoom x = Edges.after(Edges.ROUND, 19);
        x.night(20, 1);
        edges.is(47, "39 answers", x.count(2), 39);
        edges.is(47, "asks", x.asks(0), 40);
    }

    private static void nightTillNoneMayBe() {
        edges.answers(47, "at an end", () -> begun("e", 0), x -> x.night(1, 1), 0);
        edges.answers(47, "at a lost", () -> begun("l", 0), x -> x.night(20, 1), 0);
        edges.answers(47, "at a loss", () -> begun("c", 0), x -> x.night(20, 1), 0);
        edges.answers(47, "each is barred", Edges::rich, x -> x.night(20, 1), 0);
        edges.onlyTells(47, "none", Edges::rich, x -> x.night(20, 1));
        edges.answers(47, "to an end", () -> begun("ccccccccce" + CHAIN, 0), x -> x.night(20, 1), 9);
        edges.answers(47, "just so many", () -> begun("ccccccccce" + CHAIN, 0), x -> x.night(9, 1), 9);
        edges.answers(47, "fewer", () -> begun("ccccccccce" + CHAIN, 0), x -> x.night(8, 1), 8);
        edges.answers(47, "by the law", () -> lawful(begun("cccccccccc" + CHAIN + "b9109", 3)), x -> x.night(20, 1), 9);
        edges.answers(47, "without it", () -> begun("cccccccccc" + CHAIN + "b9109", 3), x -> x.night(20, 1), 20);
        // By the law but one PART may be asked of, whatever the number.
        String parts = "cceb02129b12029";
        for (int seed = 1; seed < 200; seed += 9) {
            WhyRoom x = lawful(Edges.after(parts, 1));
            edges.is(47, "one part is left", x.night(1, seed), 1);
            edges.is(47, "one part is left", x.here(), 2);
        }
    }

    private static WhyRoom begun(String text, int claim) {
        WhyRoom x = Edges.of(text);
        x.begin(claim);
        return x;
    }

    /** Two REASONS for each of four CLAIMS, one of three PARTS and one of two: no night ends there. */
    private static void nightBySeeds() {
        String text = "cccc b031239 b02139 b130239 b12039 b230139 b22019 b330129 b32129";
        int[][][] parts = {{{1, 2, 3}, {1, 3}}, {{0, 2, 3}, {0, 3}}, {{0, 1, 3}, {0, 1}}, {{0, 1, 2}, {1, 2}}};
        BigInteger times = BigInteger.valueOf(48271);
        BigInteger round = BigInteger.valueOf(2147483647);
        for (int seed : new int[] {1, 2, 3, 64, 44488, 1073741824, 2147483645, 2147483646}) {
            WhyRoom x = begun(text, 2);
            edges.is(47, "twenty by " + seed, x.night(20, seed), 20);
            int[] asked = new int[21];
            asked[0] = 2;
            BigInteger number = BigInteger.valueOf(seed);
            for (int i = 0; i < 20; i++) {
                number = number.multiply(times).mod(round);
                int[] of = parts[asked[i]][number.testBit(0) ? 1 : 0];
                asked[i + 1] = of[(int) (number.longValue() / 64 % of.length)];
            }
            x.asks(5);
            edges.isRow(47, "asked of by " + seed, x, 5, asked);
        }
    }
}
