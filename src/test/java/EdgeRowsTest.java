/** Promises 1 to 9 at their edges: what there is at first, ROWS of 0 to 40 ints, TEXTS of 0 to 80 bytes. */
public final class EdgeRowsTest {
    private static final int MAX = Edges.MAX, MIN = Edges.MIN;
    private static final int NOTHING = Edges.NOTHING, BEYOND = Edges.BEYOND, NOUGHT = Edges.NOUGHT, SIZE = Edges.SIZE;
    private static final Edges edges = new Edges();

    public static void main(String[] args) {
        toldBeforeAnyCall();
        rowsOfANewObject();
        roomOfANewObject();
        claimsOfANewObject();
        row();
        lay();
        at();
        tear();
        copy();
        copyOntoItself();
        mean();
        text();
        put();
        edges.end(1, 9);
    }

    // ---- promise 1

    private static void toldBeforeAnyCall() {
        WhyRoom x = new WhyRoom();
        edges.is(1, "asked() before", x.asked(), 0);
        edges.is(1, "upper() before", x.upper(), 0);
        edges.is(1, "lower() before", x.lower(), 1);
        edges.is(1, "finding() before", x.finding(), 0);
        for (int f = 1; f <= 5; f++) {
            edges.is(1, "findings() before", x.findings(f), 0);
        }
        for (int what = 0; what <= 8; what++) {
            edges.is(1, "count() before", x.count(what), 0);
        }
    }

    private static void rowsOfANewObject() {
        for (int i = 0; i <= 5; i++) {
            int r = i;
            edges.finds(1, "no row " + r, WhyRoom::new, x -> x.at(r, 0), NOTHING);
            edges.finds(1, "no row " + r, WhyRoom::new, x -> x.lay(r, 0, 1), NOTHING);
            edges.finds(1, "no row " + r, WhyRoom::new, x -> x.tear(r), NOTHING);
            edges.finds(1, "no row " + r, WhyRoom::new, x -> x.mean(r), NOTHING);
            edges.finds(1, "no row " + r, WhyRoom::new, x -> x.copy(r, 0, r, 0, 0), NOTHING);
        }
        for (int i = 0; i <= 3; i++) {
            int t = i;
            edges.finds(1, "no text " + t, WhyRoom::new, x -> x.put(t, 0, 99), NOTHING);
            edges.finds(1, "no text " + t, WhyRoom::new, x -> x.fault(t), NOTHING);
            edges.finds(1, "no text " + t, WhyRoom::new, x -> x.room(t), NOTHING);
        }
    }

    private static void roomOfANewObject() {
        for (int i = 0; i <= 2; i++) {
            int k = i;
            edges.finds(1, "no kept room " + k, WhyRoom::new, x -> x.on(k), NOTHING);
            edges.state(1, "nothing to keep in " + k, WhyRoom::new, x -> x.image(k));
        }
        edges.state(1, "no evening: here", WhyRoom::new, x -> x.here());
        edges.state(1, "no evening: may", WhyRoom::new, x -> x.may());
        edges.state(1, "no evening: ends", WhyRoom::new, x -> x.ends());
        edges.state(1, "no evening: asks", WhyRoom::new, x -> x.asks(0));
        edges.state(1, "no evening: night", WhyRoom::new, x -> x.night(1, 1));
        edges.state(1, "no claims: judge", WhyRoom::new, x -> x.judge(0));
        edges.state(1, "no claims: held", WhyRoom::new, x -> x.held(0));
        edges.state(1, "no claims: lied", WhyRoom::new, x -> x.lied(0));
        edges.answers(1, "no answers", WhyRoom::new, x -> x.undo(0), 0);
        edges.bad(1, "no answer 1", WhyRoom::new, x -> x.undo(1));
        edges.tells(1, "none stands", WhyRoom::new, x -> x.stands(), 0, 0);
        edges.answers(1, "none is lost", WhyRoom::new, x -> x.lost(), 0);
        edges.answers(1, "the law is off", WhyRoom::new, x -> x.law(0), 0);
        edges.answers(1, "the law is off", WhyRoom::new, x -> x.law(1), 0);
    }

    private static void claimsOfANewObject() {
        edges.bad(1, "no claim: claim", WhyRoom::new, x -> x.claim(0, 0));
        edges.bad(1, "no reason: reason", WhyRoom::new, x -> x.reason(0, 0));
        edges.bad(1, "no claim: mark", WhyRoom::new, x -> x.mark(0, 1));
        edges.bad(1, "no reason: trust", WhyRoom::new, x -> x.trust(0, 1));
        edges.bad(1, "no claim: away", WhyRoom::new, x -> x.away(0, 1));
        edges.bad(1, "no claim: learn", WhyRoom::new, x -> x.learn(0, 1));
        edges.bad(1, "no claim: begin", WhyRoom::new, x -> x.begin(0));
        edges.bad(1, "no reason: answer", WhyRoom::new, x -> x.answer(0, 0));
        edges.bad(1, "no claim: soonest", WhyRoom::new, x -> x.soonest(0));
        edges.bad(1, "no claim: steps", WhyRoom::new, x -> x.steps(0));
        edges.bad(1, "no claim: sure", WhyRoom::new, x -> x.sure(0));
        edges.bad(1, "no claim: longest", WhyRoom::new, x -> x.longest(0, 0));
        edges.bad(1, "no claim: never", WhyRoom::new, x -> x.never(0));
        edges.bad(1, "no claim: game", WhyRoom::new, x -> x.game(0));
        edges.bad(1, "no claim: words", WhyRoom::new, x -> x.words(0));
        edges.bad(1, "no claim: agree", WhyRoom::new, x -> x.agree(0));
        edges.bad(1, "no claim: thin", WhyRoom::new, x -> x.thin(0));
        edges.bad(1, "no claim: without", WhyRoom::new, x -> x.without(0));
        edges.bad(1, "no claim: falls", WhyRoom::new, x -> x.falls(0));
        edges.bad(1, "no claim: whose", WhyRoom::new, x -> x.whose(0));
        edges.bad(1, "no claim: fits", WhyRoom::new, x -> x.fits(0, 0, 0));
        edges.bad(1, "no claim: odds", WhyRoom::new, x -> x.odds(0, 0));
    }

    // ---- promise 2

    private static void row() {
        edges.range(2, "row", Edges::rich, (x, r) -> x.row(r, 3), 0, 5);
        for (int n : new int[] {0, 1, 39, 40}) {
            edges.answers(2, "a row of " + n, Edges::rich, x -> x.row(4, n), n);
        }
        edges.bad(2, "41 ints", Edges::rich, x -> x.row(0, 41));
        edges.bad(2, "most ints", Edges::rich, x -> x.row(0, MAX));
        edges.finds(2, "-1 ints", Edges::rich, x -> x.row(0, -1), SIZE);
        edges.finds(2, "-1 ints of a missing row", Edges::rich, x -> x.row(4, -1), SIZE);
        edges.finds(2, "least ints", Edges::rich, x -> x.row(0, MIN), SIZE);
        edges.bad(2, "BAD ahead of SIZE", Edges::rich, x -> x.row(6, -1));
        edges.bad(2, "BAD ahead of SIZE", Edges::rich, x -> x.row(-1, -1));
        WhyRoom x = Edges.rich();
        edges.is(2, "anew", x.row(0, 2), 2);
        edges.isRow(2, "anew, shorter", x, 0, 0, 0);
        edges.is(2, "anew", x.row(0, 40), 40);
        edges.isRow(2, "anew, longer", x, 0, new int[40]);
        edges.is(2, "anew", x.row(0, 0), 0);
        edges.isRow(2, "anew, empty", x, 0);
        edges.is(2, "a row of none is there", x.count(6), 3);
        WhyRoom all = new WhyRoom();
        for (int r = 0; r <= 5; r++) {
            all.row(r, r);
            edges.is(2, "rows there", all.count(6), r + 1);
        }
    }

    // ---- promises 3, 4, 5

    private static void lay() {
        edges.range(3, "row", Edges::rich, (x, r) -> x.lay(r, 0, 3), 0, 5);
        edges.tells(3, "the first place", Edges::rich, x -> x.lay(0, 0, MAX), 1, 11);
        edges.tells(3, "the last place", Edges::rich, x -> x.lay(0, 39, MIN), 1, -7);
        edges.finds(3, "place 40 of 40", Edges::rich, x -> x.lay(0, 40, 5), BEYOND);
        edges.finds(3, "place -1", Edges::rich, x -> x.lay(0, -1, 5), BEYOND);
        edges.finds(3, "place 5 of 5", Edges::rich, x -> x.lay(2, 5, 5), BEYOND);
        edges.finds(3, "place 0 of none", Edges::rich, x -> x.lay(1, 0, 5), BEYOND);
        edges.finds(3, "most", Edges::rich, x -> x.lay(0, MAX, 5), BEYOND);
        edges.finds(3, "least", Edges::rich, x -> x.lay(0, MIN, 5), BEYOND);
        edges.finds(3, "NOTHING ahead of BEYOND", Edges::rich, x -> x.lay(4, -1, 5), NOTHING);
        edges.bad(3, "BAD ahead of BEYOND", Edges::rich, x -> x.lay(6, -1, 5));
        WhyRoom x = Edges.rich();
        for (int v : new int[] {MAX, MIN, -1, 0}) {
            x.lay(2, 4, v);
            x.at(2, 4);
            edges.is(3, "an int", x.asked(), v);
        }
        x.lay(2, 4, 77);
        edges.isRow(3, "one place", x, 2, 0, 1, 6, 6, 77);
    }

    private static void at() {
        edges.range(4, "row", Edges::rich, (x, r) -> x.at(r, 0), 0, 5);
        edges.tells(4, "the first place", Edges::rich, x -> x.at(0, 0), 1, 11);
        edges.tells(4, "the last place", Edges::rich, x -> x.at(0, 39), 1, -7);
        edges.tells(4, "the place ahead of it", Edges::rich, x -> x.at(0, 38), 1, 0);
        edges.finds(4, "place 40 of 40", Edges::rich, x -> x.at(0, 40), BEYOND);
        edges.finds(4, "place -1", Edges::rich, x -> x.at(0, -1), BEYOND);
        edges.finds(4, "place 5 of 5", Edges::rich, x -> x.at(2, 5), BEYOND);
        edges.finds(4, "place 0 of none", Edges::rich, x -> x.at(1, 0), BEYOND);
        edges.finds(4, "most", Edges::rich, x -> x.at(0, MAX), BEYOND);
        edges.finds(4, "least", Edges::rich, x -> x.at(0, MIN), BEYOND);
        edges.finds(4, "NOTHING ahead of BEYOND", Edges::rich, x -> x.at(4, -1), NOTHING);
        edges.bad(4, "BAD ahead of BEYOND", Edges::rich, x -> x.at(-1, -1));
    }

    private static void tear() {
        edges.range(5, "row", Edges::rich, (x, r) -> x.tear(r), 0, 5);
        edges.finds(5, "missing", Edges::rich, x -> x.tear(4), NOTHING);
        edges.answers(5, "a row of none", Edges::rich, x -> x.tear(1), 1);
        WhyRoom x = Edges.rich();
        edges.is(5, "there", x.tear(0), 1);
        edges.is(5, "rows there", x.count(6), 2);
        edges.is(5, "twice", x.tear(0), Edges.FINDING);
        edges.is(5, "missing", x.at(0, 0), Edges.FINDING);
        edges.is(5, "missing", x.finding(), NOTHING);
        x.row(0, 1);
        edges.isRow(5, "there again", x, 0, 0);
    }

    // ---- promise 6

    private static void copy() {
        edges.range(6, "from", Edges::rich, (x, r) -> x.copy(r, 0, 0, 0, 0), 0, 5);
        edges.range(6, "to", Edges::rich, (x, r) -> x.copy(0, 0, r, 0, 0), 0, 5);
        edges.bad(6, "BAD ahead of SIZE", Edges::rich, x -> x.copy(6, 0, 0, 0, -1));
        edges.bad(6, "BAD ahead of SIZE", Edges::rich, x -> x.copy(0, 0, 6, 0, -1));
        edges.finds(6, "-1 places", Edges::rich, x -> x.copy(0, 0, 2, 0, -1), SIZE);
        edges.finds(6, "least places", Edges::rich, x -> x.copy(0, 0, 2, 0, MIN), SIZE);
        edges.finds(6, "SIZE ahead of NOTHING", Edges::rich, x -> x.copy(4, 0, 4, 0, -1), SIZE);
        edges.finds(6, "the first is missing", Edges::rich, x -> x.copy(4, 0, 0, 0, 0), NOTHING);
        edges.finds(6, "the other is missing", Edges::rich, x -> x.copy(0, 0, 4, 0, 0), NOTHING);
        edges.finds(6, "NOTHING ahead of BEYOND", Edges::rich, x -> x.copy(0, 41, 4, 0, 1), NOTHING);
        edges.finds(6, "NOTHING ahead of BEYOND", Edges::rich, x -> x.copy(4, 0, 0, 41, 1), NOTHING);
        edges.answers(6, "none, from the end to the end", Edges::rich, x -> x.copy(0, 40, 2, 5, 0), 1);
        edges.answers(6, "none of none", Edges::rich, x -> x.copy(1, 0, 1, 0, 0), 1);
        edges.onlyTells(6, "none", Edges::rich, x -> x.copy(0, 40, 2, 5, 0));
        edges.finds(6, "none from behind the end", Edges::rich, x -> x.copy(0, 41, 2, 0, 0), BEYOND);
        edges.finds(6, "none to behind the end", Edges::rich, x -> x.copy(0, 0, 2, 6, 0), BEYOND);
        edges.finds(6, "from -1", Edges::rich, x -> x.copy(0, -1, 2, 0, 1), BEYOND);
        edges.finds(6, "to -1", Edges::rich, x -> x.copy(0, 0, 2, -1, 1), BEYOND);
        edges.answers(6, "five of five", Edges::rich, x -> x.copy(2, 0, 0, 35, 5), 1);
        edges.finds(6, "six of five", Edges::rich, x -> x.copy(2, 0, 0, 0, 6), BEYOND);
        edges.finds(6, "five of five from 1", Edges::rich, x -> x.copy(2, 1, 0, 0, 5), BEYOND);
        edges.finds(6, "to one too far", Edges::rich, x -> x.copy(2, 0, 0, 36, 5), BEYOND);
        edges.answers(6, "forty of forty", Edges::rich, x -> x.copy(0, 0, 0, 0, 40), 1);
        edges.finds(6, "41 of forty", Edges::rich, x -> x.copy(0, 0, 0, 0, 41), BEYOND);
        edges.finds(6, "most places", Edges::rich, x -> x.copy(0, 1, 0, 1, MAX), BEYOND);
        edges.finds(6, "from the most", Edges::rich, x -> x.copy(0, MAX, 0, 0, 1), BEYOND);
        edges.finds(6, "to the most", Edges::rich, x -> x.copy(0, 0, 0, MAX, 1), BEYOND);
        edges.finds(6, "from the least", Edges::rich, x -> x.copy(0, MIN, 0, 0, 1), BEYOND);
        edges.finds(6, "to the least", Edges::rich, x -> x.copy(0, 0, 0, MIN, 1), BEYOND);
        WhyRoom x = Edges.rich();
        edges.is(6, "to the end", x.copy(2, 3, 0, 38, 2), 1);
        x.at(0, 39);
        edges.is(6, "to the last place", x.asked(), 8);
        x.at(0, 37);
        edges.is(6, "not ahead of it", x.asked(), 0);
        edges.isRow(6, "the first one stays", x, 2, 0, 1, 6, 6, 8);
    }

    private static void copyOntoItself() {
        WhyRoom x = new WhyRoom();
        Edges.tell(x, 3, 1, 2, 3, 4, 5);
        edges.is(6, "on by one", x.copy(3, 0, 3, 1, 4), 1);
        edges.isRow(6, "as if taken ahead", x, 3, 1, 1, 2, 3, 4);
        Edges.tell(x, 3, 1, 2, 3, 4, 5);
        edges.is(6, "back by one", x.copy(3, 1, 3, 0, 4), 1);
        edges.isRow(6, "as if taken ahead", x, 3, 2, 3, 4, 5, 5);
    }

    // ---- promise 7

    private static void mean() {
        edges.range(7, "row", Edges::rich, (x, r) -> x.mean(r), 0, 5);
        edges.finds(7, "missing", Edges::rich, x -> x.mean(4), NOTHING);
        edges.finds(7, "shared among none", Edges::rich, x -> x.mean(1), NOUGHT);
        edges.tells(7, "of one", () -> told(MIN), x -> x.mean(0), 1, MIN);
        edges.tells(7, "of one", () -> told(-1), x -> x.mean(0), 1, -1);
        edges.tells(7, "cut, above 0", () -> told(1, 2, 2), x -> x.mean(0), 1, 1);
        edges.tells(7, "cut, below 0", () -> told(-1, -2, -2), x -> x.mean(0), 1, -1);
        edges.tells(7, "cut to 0", () -> told(0, 0, -2), x -> x.mean(0), 1, 0);
        edges.tells(7, "the most and the least", () -> told(MAX, MIN), x -> x.mean(0), 1, 0);
        edges.tells(7, "forty times the most", () -> told(forty(MAX)), x -> x.mean(0), 1, MAX);
        edges.tells(7, "forty times the least", () -> told(forty(MIN)), x -> x.mean(0), 1, MIN);
    }

    private static WhyRoom told(int... numbers) {
        WhyRoom x = new WhyRoom();
        Edges.tell(x, 0, numbers);
        return x;
    }

    private static int[] forty(int v) {
        int[] numbers = new int[40];
        java.util.Arrays.fill(numbers, v);
        return numbers;
    }

    // ---- promises 8, 9

    private static void text() {
        edges.range(8, "text", Edges::rich, (x, t) -> x.text(t, 3), 0, 3);
        for (int n : new int[] {0, 1, 79, 80}) {
            edges.answers(8, "a text of " + n, Edges::rich, x -> x.text(3, n), n);
        }
        edges.bad(8, "81 bytes", Edges::rich, x -> x.text(0, 81));
        edges.bad(8, "most bytes", Edges::rich, x -> x.text(0, MAX));
        edges.finds(8, "-1 bytes", Edges::rich, x -> x.text(0, -1), SIZE);
        edges.finds(8, "-1 bytes of a missing one", Edges::rich, x -> x.text(3, -1), SIZE);
        edges.finds(8, "least bytes", Edges::rich, x -> x.text(0, MIN), SIZE);
        edges.bad(8, "BAD ahead of SIZE", Edges::rich, x -> x.text(4, -1));
        edges.bad(8, "BAD ahead of SIZE", Edges::rich, x -> x.text(-1, -1));
        WhyRoom x = Edges.rich();
        x.text(0, 1);
        x.text(0, 80);
        for (int i = 0; i < 80; i++) {
            edges.is(8, "anew, blank " + i, x.put(0, i, 1), 1032);
        }
        edges.is(8, "the room stays without its text", x.count(0), 9);
        WhyRoom all = new WhyRoom();
        for (int t = 0; t <= 3; t++) {
            all.text(t, t);
            edges.is(8, "texts there", all.count(7), t + 1);
        }
    }

    private static void put() {
        edges.range(9, "text", Edges::rich, (x, t) -> x.put(t, 0, 3), 0, 3);
        edges.answers(9, "the first byte", Edges::rich, x -> x.put(0, 0, 101), 1099);
        edges.answers(9, "the last byte", Edges::rich, x -> x.put(0, 58, 101), 1050);
        edges.finds(9, "behind the last", Edges::rich, x -> x.put(0, 59, 101), BEYOND);
        edges.finds(9, "byte -1", Edges::rich, x -> x.put(0, -1, 101), BEYOND);
        edges.finds(9, "byte 0 of none", Edges::rich, x -> x.put(2, 0, 101), BEYOND);
        edges.finds(9, "most", Edges::rich, x -> x.put(0, MAX, 101), BEYOND);
        edges.finds(9, "least", Edges::rich, x -> x.put(0, MIN, 101), BEYOND);
        edges.finds(9, "NOTHING ahead of BEYOND", Edges::rich, x -> x.put(3, -1, 101), NOTHING);
        edges.bad(9, "BAD ahead of BEYOND", Edges::rich, x -> x.put(4, -1, 101));
        int[][] cuts = {{0, 0}, {127, 127}, {128, -128}, {255, -1}, {256, 0}, {257, 1}, {-1, -1}, {-128, -128},
            {-129, 127}, {-256, 0}, {MAX, -1}, {MIN, 0}};
        for (int[] cut : cuts) {
            WhyRoom x = Edges.rich();
            x.text(3, 80);
            x.put(3, 79, cut[0]);
            edges.is(9, cut[0] + " cut to a byte", x.put(3, 79, 0), 1000 + cut[1]);
            edges.is(9, "80 is behind 79", x.put(3, 80, 0), Edges.FINDING);
        }
        edges.answers(9, "the room stays", Edges::rich, x -> x.put(0, 0, 120) + x.count(0), 1099 + 9);
    }
}
