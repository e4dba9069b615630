/** Promises 28 to 41 at their edges: what stands, how far, where a loss is, words, what falls, whose acts. */
public final class EdgeClaimsTest {
    private static final int NONE = Edges.NONE;
    private static final Edges edges = new Edges();
    // Each by the next one, ten in all; the last is an end, or at a loss.
    private static final String CHAIN = "b0119b1129b2139b3149b4159b5169b6179b7189b8199";
    private static final String BACK = "b8199b7189b6179b5169b4159b3149b2139b1129b0119";
    private static final String TO_END = "ccccccccce" + CHAIN;
    private static final String TO_LOSS = "cccccccccc" + CHAIN;
    private static final String TO_LOST = "cccccccccl" + CHAIN;
    private static final String RING = TO_LOSS + "b9109";
    private static final String WAY_OUT = "cceb0119b1109b0129";

    public static void main(String[] args) {
        claimsOnly();
        stands();
        soonest();
        steps();
        sure();
        longest();
        longestAnew();
        lost();
        never();
        game();
        words();
        agree();
        thin();
        without();
        falls();
        fallsAtMost();
        whose();
        oneBehindTheOther();
        edges.end(28, 41);
    }

    private static WhyRoom gone(String text, int... claims) {
        WhyRoom x = Edges.of(text);
        for (int c : claims) {
            x.away(c, 1);
        }
        return x;
    }

    private static WhyRoom knowing(String text, int... claims) {
        WhyRoom x = Edges.of(text);
        for (int c : claims) {
            x.learn(c, 1);
        }
        return x;
    }

    /** Which numbers are CLAIMS, in a ROOM of ten, of nine, and of one. */
    private static void claimsOnly() {
        claimsOnly(29, (x, c) -> x.soonest(c));
        claimsOnly(30, (x, c) -> x.steps(c));
        claimsOnly(31, (x, c) -> x.sure(c));
        claimsOnly(32, (x, c) -> x.longest(c, 0));
        claimsOnly(34, (x, c) -> x.never(c));
        claimsOnly(35, (x, c) -> x.game(c));
        claimsOnly(36, (x, c) -> x.words(c));
        claimsOnly(37, (x, c) -> x.agree(c));
        claimsOnly(38, (x, c) -> x.thin(c));
        claimsOnly(39, (x, c) -> x.without(c));
        claimsOnly(40, (x, c) -> x.falls(c));
        claimsOnly(41, (x, c) -> x.whose(c));
    }

    private static void claimsOnly(int promise, Edges.Numbered call) {
        edges.range(promise, "claim of ten", Edges::most, call, 0, 9);
        edges.range(promise, "claim of nine", Edges::rich, call, 0, 8);
        edges.range(promise, "claim of one", () -> Edges.of("e"), call, 0, 0);
    }

    // ---- promise 28

    private static void stands() {
        edges.tells(28, "an end", () -> Edges.of("e"), x -> x.stands(), 1, 0);
        edges.tells(28, "a lost", () -> Edges.of("l"), x -> x.stands(), 0, 1);
        edges.tells(28, "an end taken away", () -> gone("e", 0), x -> x.stands(), 0, 0);
        edges.tells(28, "a lost taken away", () -> gone("l", 0), x -> x.stands(), 0, 0);
        edges.tells(28, "ten ends", () -> Edges.of("eeeeeeeeee"), x -> x.stands(), 1023, 0);
        edges.tells(28, "on nothing", () -> Edges.of("cccccccccc"), x -> x.stands(), 0, 1023);
        edges.tells(28, "on a round", () -> Edges.of(RING), x -> x.stands(), 0, 1023);
        edges.tells(28, "on a round with a way out", () -> Edges.of(WAY_OUT), x -> x.stands(), 7, 0);
        edges.tells(28, "the way out taken away", () -> gone(WAY_OUT, 2), x -> x.stands(), 0, 3);
        edges.tells(28, "a chain", () -> Edges.of(TO_END), x -> x.stands(), 1023, 0);
        edges.tells(28, "a chain told from behind", () -> Edges.of("ccccccccce" + BACK), x -> x.stands(), 1023, 0);
        edges.tells(28, "a chain to a lost", () -> Edges.of(TO_LOST), x -> x.stands(), 0, 1023);
        edges.tells(28, "a chain without its middle", () -> gone(TO_END, 4), x -> x.stands(), 0x3e0, 15);
        edges.tells(28, "not all parts", () -> Edges.of("ccle b02139"), x -> x.stands(), 8, 7);
        edges.tells(28, "a lost part", () -> Edges.of("cle b02129"), x -> x.stands(), 4, 3);
        edges.tells(28, "all three parts", () -> Edges.of("ceee b031239"), x -> x.stands(), 15, 0);
        edges.tells(28, "the law is nothing to it", Edges::rich, x -> x.stands(), 0x0f, 0x170);
    }

    // ---- promises 29, 30, 31

    private static void soonest() {
        edges.tells(29, "an end", () -> Edges.of("e"), x -> x.soonest(0), 0, NONE);
        edges.tells(29, "nine", () -> Edges.of(TO_END), x -> x.soonest(0), 9, 0);
        edges.tells(29, "the last reason", () -> Edges.of(TO_END), x -> x.soonest(8), 1, 8);
        edges.tells(29, "the first of such", () -> Edges.of("ceb0119b0118"), x -> x.soonest(0), 1, 0);
        edges.tells(29, "a later one is sooner", () -> Edges.of("cceb0119b1129b0129"), x -> x.soonest(0), 1, 2);
        edges.tells(29, "not by a lost", () -> Edges.of("cleb02129b0129"), x -> x.soonest(0), 1, 1);
        edges.tells(29, "the part that lasts longest", () -> Edges.of("cceb02129b1129"), x -> x.soonest(0), 2, 0);
        edges.tells(29, "reason 13", () -> Edges.of(Edges.MOST), x -> x.soonest(8), 1, 12);
        edges.tells(29, "reason 13 alone", EdgeClaimsTest::byTheLast, x -> x.soonest(3), 1, 13);
        edges.answers(29, "a lost", () -> Edges.of("l"), x -> x.soonest(0), NONE);
        edges.answers(29, "an end taken away", () -> gone("e", 0), x -> x.soonest(0), NONE);
        edges.answers(29, "on a round", () -> Edges.of(RING), x -> x.soonest(0), NONE);
        edges.onlyTells(29, "NONE", Edges::rich, x -> x.soonest(4));
    }

    private static WhyRoom byTheLast() {
        return Edges.of("cccce" + "b0149b0149b0149b0149b1149b1149b1149b1149b2149b2149b2149b2149" + "b3109b3149");
    }

    private static void steps() {
        edges.answers(30, "an end", () -> Edges.of("e"), x -> x.steps(0), 0);
        edges.answers(30, "one", () -> Edges.of("ceb0119"), x -> x.steps(0), 1);
        edges.answers(30, "nine", () -> Edges.of(TO_END), x -> x.steps(0), 9);
        String anew = "cccceb02129b1139b2139b3149";
        edges.answers(30, "each time anew", () -> Edges.of(anew), x -> x.steps(0), 5);
        // No ROOM asks for more: three PARTS each, each the next ones (999 can't be come to).
        String dear = "ccccccccceb031231b132341b233451b334561b435671b536781b637891b72891b8191";
        edges.answers(30, "as many as can be", () -> Edges.of(dear), x -> x.steps(0), 177);
        edges.answers(30, "the fewest", () -> Edges.of("cceb02129b1129b0119b0129"), x -> x.steps(0), 1);
        edges.answers(30, "a lost", () -> Edges.of("l"), x -> x.steps(0), NONE);
        edges.answers(30, "an end taken away", () -> gone("e", 0), x -> x.steps(0), NONE);
        edges.answers(30, "a part does not stand", () -> Edges.of("cleb02129"), x -> x.steps(0), NONE);
        edges.answers(30, "on a round", () -> Edges.of(RING), x -> x.steps(9), NONE);
        edges.onlyTells(30, "steps", Edges::rich, x -> x.steps(0));
    }

    private static void sure() {
        edges.answers(31, "an end", () -> Edges.of("e"), x -> x.sure(0), 9);
        edges.answers(31, "hardly", () -> Edges.of("ceb0111"), x -> x.sure(0), 1);
        edges.answers(31, "as sure as can be", () -> Edges.of("ceb0119"), x -> x.sure(0), 9);
        edges.answers(31, "the least sure first", () -> Edges.of("cceb0112b1127"), x -> x.sure(0), 2);
        edges.answers(31, "the least sure last", () -> Edges.of("cceb0117b1122"), x -> x.sure(0), 2);
        edges.answers(31, "the least sure part", () -> Edges.of("ccceb02129b1133b2137"), x -> x.sure(0), 3);
        edges.answers(31, "the best way", () -> Edges.of("ceb0111b0118b0112"), x -> x.sure(0), 8);
        edges.answers(31, "the longer way is better", () -> Edges.of("cceb0121b0119b1129"), x -> x.sure(0), 9);
        edges.answers(31, "nine long", () -> Edges.of(TO_END), x -> x.sure(0), 9);
        edges.answers(31, "as it was made", Edges::most, x -> x.trust(0, 9) * 0 + x.sure(0), 9);
        edges.answers(31, "a lost", () -> Edges.of("l"), x -> x.sure(0), NONE);
        edges.answers(31, "an end taken away", () -> gone("e", 0), x -> x.sure(0), NONE);
        edges.answers(31, "on a round", () -> Edges.of(RING), x -> x.sure(0), NONE);
        edges.onlyTells(31, "sure", Edges::rich, x -> x.sure(0));
    }

    // ---- promise 32

    private static void longest() {
        edges.range(32, "row", Edges::rich, (x, r) -> x.longest(0, r), 0, 5);
        edges.bad(32, "both", Edges::rich, x -> x.longest(9, 6));
        longestIs("an end", Edges.of("e"), 0, 0);
        longestIs("a lost", Edges.of("cl"), 1, 1);
        longestIs("at a loss", Edges.of("c"), 0, 0);
        longestIs("taken away", gone(WAY_OUT, 0), 0, 0);
        longestIs("its only part taken away", gone("ceb0119", 1), 0, 0);
        longestIs("all ten", Edges.of(TO_END), 0, 0, 1, 2, 3, 4, 5, 6, 7, 8, 9);
        longestIs("all ten of a ring", Edges.of(RING), 6, 6, 7, 8, 9, 0, 1, 2, 3, 4, 5);
        longestIs("not itself twice", Edges.of(Edges.ROUND), 1, 1, 0);
        longestIs("longer than by the first reason", Edges.of("cceb0129b0119b1129"), 0, 0, 1, 2);
        longestIs("the first such row", Edges.of("ceeb0129b0119"), 0, 0, 1);
        longestIs("the first such row of one reason", Edges.of("ceeb02219"), 0, 0, 1);
        longestIs("a lower claim later on", Edges.of("cccceb0119b0129b1149b2139b3149"), 0, 0, 2, 3, 4);
        longestIs("by way of 0", Edges.of("cccceb1129b1139b2149b3109b0149"), 1, 1, 3, 0, 4);
        WhyRoom lawful = Edges.after(WAY_OUT, 3);
        lawful.law(1);
        longestIs("the law is nothing to it", lawful, 1, 1, 0, 2);
    }

    private static void longestIs(String what, WhyRoom x, int from, int... claims) {
        edges.is(32, what, x.longest(from, 4), claims.length - 1);
        edges.isRow(32, what, x, 4, claims);
    }

    private static void longestAnew() {
        WhyRoom x = Edges.rich();
        edges.is(32, "into a longer row", x.longest(0, 0), 3);
        edges.isRow(32, "into a longer row", x, 0, 0, 1, 2, 3);
        edges.is(32, "into an empty row", x.longest(8, 1), 1);
        edges.isRow(32, "into an empty row", x, 1, 8, 6);
        edges.is(32, "rows there", x.count(6), 3);
        edges.is(32, "into a missing row", x.longest(4, 5), 0);
        edges.isRow(32, "into a missing row", x, 5, 4);
        edges.is(32, "rows there", x.count(6), 4);
        edges.is(32, "the evening stays", x.here(), 8);
    }

    // ---- promises 33, 34, 35

    private static void lost() {
        edges.onlyTells(33, "lost", Edges::rich, x -> x.lost());
        edges.answers(33, "ten losts", () -> Edges.of("llllllllll"), x -> x.lost(), 1023);
        edges.answers(33, "ten ends", () -> Edges.of("eeeeeeeeee"), x -> x.lost(), 0);
        edges.answers(33, "ends taken away", () -> gone("eel", 0), x -> x.lost(), 4);
        edges.answers(33, "a lost taken away", () -> gone("eel", 2), x -> x.lost(), 4);
        edges.answers(33, "a claim taken away", () -> gone("ceb0119", 0), x -> x.lost(), 1);
        edges.answers(33, "a part taken away", () -> gone("ceb0119", 1), x -> x.lost(), 1);
        edges.answers(33, "a chain to a loss", () -> Edges.of(TO_LOSS), x -> x.lost(), 1023);
        edges.answers(33, "a chain to a lost", () -> Edges.of(TO_LOST), x -> x.lost(), 1023);
        edges.answers(33, "a chain to an end", () -> Edges.of(TO_END), x -> x.lost(), 0);
        edges.answers(33, "a ring", () -> Edges.of(RING), x -> x.lost(), 0);
        edges.answers(33, "one part of three", () -> Edges.of("celeb031239"), x -> x.lost(), 5);
        edges.answers(33, "one reason of two", () -> Edges.of("cleb0119b0129"), x -> x.lost(), 2);
        edges.answers(33, "by way of 0", () -> Edges.of("cclb1109b0129"), x -> x.lost(), 7);
        edges.answers(33, "both reasons", () -> Edges.of("cleb0119b02129"), x -> x.lost(), 3);
    }

    private static void never() {
        edges.onlyTells(34, "never", Edges::rich, x -> x.never(0));
        edges.answers(34, "an end", () -> Edges.of("e"), x -> x.never(0), NONE);
        edges.answers(34, "a lost", () -> Edges.of("l"), x -> x.never(0), NONE);
        edges.answers(34, "no reasons", () -> Edges.of("c"), x -> x.never(0), NONE);
        edges.answers(34, "taken away", () -> gone("ceb0119", 0), x -> x.never(0), NONE);
        edges.answers(34, "the first of two", () -> Edges.of("ceb0119b0119"), x -> x.never(0), 0);
        edges.answers(34, "not the first", () -> Edges.of("cleb02129b0129"), x -> x.never(0), 1);
        edges.answers(34, "none of two", () -> Edges.of("cleb02129b0119"), x -> x.never(0), NONE);
        edges.answers(34, "on a ring for ever", () -> Edges.of(RING), x -> x.never(9), 9);
        edges.answers(34, "the ring rather than a lost", () -> Edges.of("cclb0129b0119b1109"), x -> x.never(0), 1);
        edges.answers(34, "to an end taken away", () -> gone("ceeb0119b0129", 1), x -> x.never(0), 1);
        edges.answers(34, "reason 13", EdgeClaimsTest::neverByTheLast, x -> x.never(3), 13);
    }

    private static WhyRoom neverByTheLast() {
        return Edges.of("ccccel" + "b0149b0149b0149b0149b1149b1149b1149b1149b2149b2149b2149b2149" + "b3159b3149");
    }

    private static void game() {
        edges.onlyTells(35, "game", Edges::rich, x -> x.game(0));
        edges.answers(35, "a lost", () -> Edges.of("l"), x -> x.game(0), 0);
        edges.answers(35, "no reasons", () -> Edges.of("c"), x -> x.game(0), 0);
        edges.answers(35, "taken away", () -> gone("ceb0119", 0), x -> x.game(0), 0);
        edges.answers(35, "an end", () -> Edges.of("e"), x -> x.game(0), NONE);
        edges.answers(35, "an end taken away", () -> gone("e", 0), x -> x.game(0), NONE);
        edges.answers(35, "one", () -> Edges.of("clb0119"), x -> x.game(0), 1);
        edges.answers(35, "nine", () -> Edges.of(TO_LOSS), x -> x.game(0), 9);
        edges.answers(35, "nine, told from behind", () -> Edges.of("cccccccccl" + BACK), x -> x.game(0), 9);
        edges.answers(35, "a ring", () -> Edges.of(RING), x -> x.game(0), NONE);
        edges.answers(35, "the answers that last longest", () -> Edges.of("cclb0129b0119b1129"), x -> x.game(0), 2);
        edges.answers(35, "the part that is soonest", () -> Edges.of("cclb02129b1129"), x -> x.game(0), 1);
        edges.answers(35, "by way of 0", () -> Edges.of("cclb1109b0129"), x -> x.game(1), 2);
        edges.answers(35, "one reason saves", () -> Edges.of("cleb0119b0129"), x -> x.game(0), NONE);
    }

    // ---- promises 36, 37, 38

    private static void words() {
        edges.tells(36, "an end needs none", () -> Edges.of("e"), x -> x.words(0), 0, 0);
        edges.tells(36, "no hard ones", () -> Edges.of(TO_END), x -> x.words(0), 0, 0);
        edges.tells(36, "its own", () -> Edges.of("heb0119"), x -> x.words(0), 1, 1);
        edges.tells(36, "its own, known", () -> knowing("heb0119", 0), x -> x.words(0), 0, 0);
        String hard = "hhhhhhhhhe" + CHAIN;
        edges.tells(36, "nine", () -> Edges.of(hard), x -> x.words(0), 9, 511);
        edges.tells(36, "eight", () -> knowing(hard, 5), x -> x.words(0), 8, 511 - 32);
        edges.tells(36, "those behind it alone", () -> Edges.of(hard), x -> x.words(8), 1, 256);
        edges.tells(36, "the least of as few", () -> Edges.of("chheb0129b0119b1139b2139"), x -> x.words(0), 1, 2);
        String two = "chhheb02129b0139b1149b2149b3149";
        edges.tells(36, "fewer, not least", () -> Edges.of(two), x -> x.words(0), 1, 8);
        edges.tells(36, "one of them known", () -> knowing(two, 1), x -> x.words(0), 1, 4);
        edges.tells(36, "both known", () -> knowing(two, 1, 2), x -> x.words(0), 0, 0);
        edges.tells(36, "not needed", () -> Edges.of("cheb0129b0119b1129"), x -> x.words(0), 0, 0);
        edges.answers(36, "a lost", () -> Edges.of("l"), x -> x.words(0), NONE);
        edges.answers(36, "an end taken away", () -> gone("e", 0), x -> x.words(0), NONE);
        edges.answers(36, "a hard one taken away", () -> gone("cheb0119b1129", 1), x -> x.words(0), NONE);
        edges.answers(36, "on a round of hard ones", () -> Edges.of("hhb0119b1109"), x -> x.words(0), NONE);
        edges.onlyTells(36, "NONE", Edges::rich, x -> x.words(6));
    }

    private static void agree() {
        edges.onlyTells(37, "agree", Edges::rich, x -> x.agree(0));
        edges.answers(37, "an end", () -> Edges.of("ce"), x -> x.agree(1), 2);
        edges.answers(37, "a lost", () -> Edges.of("cl"), x -> x.agree(1), 2);
        edges.answers(37, "no reason", () -> Edges.of("cl"), x -> x.agree(0), 1);
        edges.answers(37, "taken away", () -> gone("ceb0119", 0), x -> x.agree(0), 1);
        edges.answers(37, "one reason", () -> Edges.of("ceb0119"), x -> x.agree(0), 3);
        edges.answers(37, "two reasons", () -> Edges.of("ceb0119b0119"), x -> x.agree(0), 2);
        edges.answers(37, "one of two usable", () -> gone("ceeb0119b0129", 2), x -> x.agree(0), 3);
        edges.answers(37, "all ten", () -> Edges.of(TO_END), x -> x.agree(0), 1023);
        edges.answers(37, "what comes from there alone", () -> Edges.of(TO_END), x -> x.agree(7), 0x380);
        edges.answers(37, "a ring", () -> Edges.of(RING), x -> x.agree(4), 1023);
        edges.answers(37, "behind two reasons", () -> Edges.of("ccceb0119b0129b1139b2139"), x -> x.agree(0), 14);
        edges.answers(37, "four reasons", Edges::most, x -> x.agree(0), 512);
    }

    private static void thin() {
        edges.tells(38, "itself, no reason", () -> Edges.of("c"), x -> x.thin(0), 0, 0);
        edges.tells(38, "itself, one reason", () -> Edges.of("ceb0119"), x -> x.thin(0), 0, 1);
        edges.tells(38, "itself, four", Edges::most, x -> x.thin(0), 0, 4);
        edges.tells(38, "taken away", () -> gone("ceb0119", 0), x -> x.thin(0), 0, 0);
        edges.tells(38, "the first of as thin", () -> Edges.of(RING), x -> x.thin(7), 0, 1);
        edges.tells(38, "a thinner one later", () -> Edges.of("ccceb0119b1129b1139b2139b2139b0139"), x -> x.thin(1), 1, 2);
        edges.tells(38, "the thinnest is the last", () -> Edges.of(TO_LOSS), x -> x.thin(0), 9, 0);
        edges.tells(38, "not what can't be asked of", () -> Edges.of("cceb0129b0129"), x -> x.thin(0), 0, 2);
        edges.tells(38, "usable ones alone", () -> gone("ceeb0119b0129", 2), x -> x.thin(0), 0, 1);
        edges.answers(38, "an end", () -> Edges.of("ce"), x -> x.thin(1), NONE);
        edges.answers(38, "a lost", () -> Edges.of("cl"), x -> x.thin(1), NONE);
        edges.answers(38, "an end taken away", () -> gone("ce", 1), x -> x.thin(1), NONE);
        edges.onlyTells(38, "NONE", Edges::rich, x -> x.thin(3));
    }

    // ---- promises 39, 40, 41

    private static void without() {
        edges.onlyTells(39, "without", Edges::rich, x -> x.without(3));
        edges.answers(39, "an end alone", () -> Edges.of("e"), x -> x.without(0), 0);
        edges.answers(39, "all the others", () -> Edges.of(TO_END), x -> x.without(9), 511);
        edges.answers(39, "those ahead of it", () -> Edges.of(TO_END), x -> x.without(5), 31);
        edges.answers(39, "none ahead of it", () -> Edges.of(TO_END), x -> x.without(0), 0);
        edges.answers(39, "taken away already", () -> gone(TO_END, 9), x -> x.without(9), 0);
        edges.answers(39, "one that stands not", () -> Edges.of("cleb0129"), x -> x.without(1), 0);
        edges.answers(39, "one of two", () -> Edges.of("ceeb0119b0129"), x -> x.without(1), 0);
        edges.answers(39, "the one of two that is left", () -> gone("ceeb0119b0129", 2), x -> x.without(1), 1);
        edges.answers(39, "a round falls, too", () -> Edges.of(WAY_OUT), x -> x.without(2), 3);
        edges.answers(39, "what it stands on stays", () -> Edges.of(WAY_OUT), x -> x.without(0), 2);
    }

    private static void falls() {
        edges.tells(40, "a lost", () -> Edges.of("l"), x -> x.falls(0), 0, 0);
        edges.tells(40, "an end taken away", () -> gone("e", 0), x -> x.falls(0), 0, 0);
        edges.tells(40, "on a round", () -> Edges.of(RING), x -> x.falls(0), 0, 0);
        edges.answers(40, "an end falls by itself alone", () -> Edges.of("e"), x -> x.falls(0), NONE);
        edges.answers(40, "an end, whatever goes", () -> Edges.of(TO_END), x -> x.falls(9), NONE);
        edges.tells(40, "one, the least", () -> Edges.of(TO_END), x -> x.falls(0), 1, 2);
        edges.tells(40, "one, the last", () -> Edges.of(TO_END), x -> x.falls(8), 1, 512);
        edges.tells(40, "two", () -> Edges.of("ceeb0119b0129"), x -> x.falls(0), 2, 6);
        edges.tells(40, "one is gone already", () -> gone("ceeb0119b0129", 1), x -> x.falls(0), 1, 4);
        edges.tells(40, "one that both need", () -> Edges.of("ccceb0119b0129b1139b2139"), x -> x.falls(0), 1, 8);
        String least = "cceeb0119b0129b1139";
        edges.tells(40, "two, the least", () -> Edges.of(least), x -> x.falls(0), 2, 6);
        edges.tells(40, "either part", () -> Edges.of("ceeb02129"), x -> x.falls(0), 1, 2);
        edges.onlyTells(40, "NONE", Edges::rich, x -> x.falls(3));
    }

    private static void fallsAtMost() {
        edges.tells(40, "three", () -> Edges.of("ceeeb0119b0129b0139"), x -> x.falls(0), 3, 14);
        String four = "ceeeeb0119b0129b0139b0149";
        edges.answers(40, "four are too many", () -> Edges.of(four), x -> x.falls(0), NONE);
        edges.tells(40, "one of four gone", () -> gone(four, 1), x -> x.falls(0), 3, 28);
        edges.tells(40, "by the highest", () -> Edges.of("ccccccceeeb0179b0189b0199"), x -> x.falls(0), 3, 0x380);
        String parts = "ceeeeeeeeeb031239b034569b037899";
        edges.tells(40, "one part of each of three", () -> Edges.of(parts), x -> x.falls(0), 3, 2 | 16 | 128);
    }

    private static void whose() {
        edges.tells(41, "a lost", () -> Edges.of("l"), x -> x.whose(0), 0, 0);
        edges.tells(41, "an act that stands not", () -> Edges.of("a"), x -> x.whose(0), 0, 0);
        edges.tells(41, "an act taken away", () -> gone("aeb0119", 0), x -> x.whose(0), 0, 0);
        edges.tells(41, "an end", () -> Edges.of("e"), x -> x.whose(0), 0, 0);
        edges.tells(41, "an end by which an act stands", () -> Edges.of("aeb0119"), x -> x.whose(1), 0, 0);
        edges.tells(41, "itself", () -> Edges.of("aeb0119"), x -> x.whose(0), 1, 1);
        edges.tells(41, "itself, a machine", () -> Edges.of("meb0119"), x -> x.whose(0), 1, 1);
        edges.tells(41, "no acts", () -> Edges.of(TO_END), x -> x.whose(0), 0, 0);
        edges.tells(41, "nine", () -> Edges.of("amamamamae" + CHAIN), x -> x.whose(0), 511, 511);
        edges.tells(41, "those behind it alone", () -> Edges.of("amamamamae" + CHAIN), x -> x.whose(6), 0x1c0, 0x1c0);
        String four = "caamaeb0119b0129b0139b0149b1159b2159b3159b4159";
        edges.tells(41, "one of four", () -> Edges.of(four), x -> x.whose(0), 0, 30);
        edges.tells(41, "the one that is left", () -> gone(four, 1, 2, 4), x -> x.whose(0), 8, 8);
        edges.tells(41, "a way that needs none", () -> Edges.of("caeeb0129b0119b1139"), x -> x.whose(0), 0, 2);
        edges.tells(41, "but on the same end", () -> Edges.of("caeb0129b0119b1129"), x -> x.whose(0), 0, 0);
        edges.tells(41, "could be missing", () -> Edges.of("caaeb0119b1139b1129b2139"), x -> x.whose(0), 2, 2);
        edges.tells(41, "claim 0 could be missing", () -> Edges.of("aceb1129b1109b0129"), x -> x.whose(1), 0, 0);
        edges.tells(41, "stands not", () -> Edges.of("caeb0119"), x -> x.whose(0), 0, 0);
    }

    /** What was asked of one claim is nothing to what is asked of the next. */
    private static void oneBehindTheOther() {
        for (String text : new String[] {"amahmamhae" + CHAIN, TO_LOST, RING, Edges.RAIN, WAY_OUT}) {
            WhyRoom x = Edges.of(text);
            int claims = x.count(0);
            for (int i = claims - 1; i > -claims; i--) {
                int c = Math.abs(i);
                alone(29, text, c, x, y -> 1000 * y.soonest(c) + y.asked());
                alone(30, text, c, x, y -> y.steps(c));
                alone(31, text, c, x, y -> y.sure(c));
                alone(32, text, c, x, y -> y.longest(c, 0));
                alone(34, text, c, x, y -> y.never(c));
                alone(35, text, c, x, y -> y.game(c));
                alone(37, text, c, x, y -> y.agree(c));
                alone(39, text, c, x, y -> y.without(c));
                alone(41, text, c, x, y -> 1000 * y.whose(c) + y.asked());
            }
        }
    }

    private static void alone(int promise, String text, int claim, WhyRoom x, Edges.Call call) {
        x.stands();
        WhyRoom fresh = Edges.of(text);
        fresh.stands();
        edges.is(promise, text + " of " + claim + " behind others", call.on(x), call.on(fresh));
    }
}
