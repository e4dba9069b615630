/** Promises 19 to 27 at their edges: EVENINGS that begin, go on up to 39 ANSWERS, are undone, barred, kept. */
public final class EdgeEveningTest {
    private static final int STATE = Edges.STATE, NOTHING = Edges.NOTHING;
    private static final Edges edges = new Edges();
    // 0 by 1 and 2, or by 4; 4 by 3. 1 is at a loss, 2 a lost one, 3 an end.
    private static final String SHORT = "cclea b02129 b0145 b4138";
    // A round of 0 and 1, and an end for 0.
    private static final String WAY_OUT = "cceb0119b1109b0129";

    public static void main(String[] args) {
        begin();
        beginAnew();
        answer();
        answerNotNow();
        answersAtMost();
        fullIsLast();
        undo();
        here();
        may();
        mayByTheLaw();
        ends();
        asks();
        asksAnew();
        image();
        imageIsACopy();
        on();
        onAtMost();
        edges.end(19, 27);
    }

    private static WhyRoom begun(String text, int claim) {
        WhyRoom x = Edges.of(text);
        x.begin(claim);
        return x;
    }

    private static WhyRoom gone(String text, int... claims) {
        WhyRoom x = Edges.of(text);
        for (int c : claims) {
            x.away(c, 1);
        }
        return x;
    }

    private static WhyRoom lawful(WhyRoom x) {
        x.law(1);
        return x;
    }

    /** At claim 1 of the round, as many ANSWERS as can be. */
    private static WhyRoom full() {
        return Edges.after(Edges.ROUND, 39);
    }

    private static WhyRoom without(WhyRoom x, int claim) {
        x.away(claim, 1);
        return x;
    }

    // ---- promise 19

    private static void begin() {
        edges.range(19, "claim", Edges::most, (x, c) -> x.begin(c), 0, 9);
        edges.range(19, "claim, in an evening", Edges::rich, (x, c) -> x.begin(c), 0, 8);
        edges.answers(19, "goes on", () -> Edges.of(SHORT), x -> x.begin(0), 0);
        edges.answers(19, "no reasons", () -> Edges.of(SHORT), x -> x.begin(1), 1);
        edges.answers(19, "a lost", () -> Edges.of(SHORT), x -> x.begin(2), 1);
        edges.answers(19, "an end", () -> Edges.of(SHORT), x -> x.begin(3), 1);
        edges.answers(19, "no usable reason", () -> gone(SHORT, 3), x -> x.begin(4), 1);
        edges.answers(19, "one usable reason", () -> gone(SHORT, 1), x -> x.begin(0), 0);
        edges.state(19, "a claim taken away", () -> gone(SHORT, 0), x -> x.begin(0));
        edges.state(19, "a lost taken away", () -> gone(SHORT, 2), x -> x.begin(2));
        edges.state(19, "an end taken away", () -> gone(SHORT, 3), x -> x.begin(3));
        edges.state(19, "taken away, in an evening", Edges::rich, x -> x.begin(7));
    }

    private static void beginAnew() {
        WhyRoom x = Edges.rich();
        edges.is(19, "anew", x.begin(8), 0);
        edges.is(19, "there", x.here(), 8);
        edges.is(19, "no answers", x.asked(), 0);
        edges.is(19, "asks", x.asks(3), 1);
        edges.isRow(19, "asks", x, 3, 8);
        edges.is(19, "the former one bars nothing", x.may(), 1 << 7);
        edges.is(19, "the law stays", x.law(1), 1);
        edges.is(19, "at the same", x.begin(8), 0);
        edges.is(19, "an end", x.begin(3), 1);
        edges.is(19, "anew behind an end", x.begin(0), 0);
    }

    // ---- promise 20

    private static void answer() {
        edges.range(20, "reason", () -> begun(Edges.MOST, 8), (x, k) -> x.answer(k, 9), 0, 13);
        edges.range(20, "part", () -> begun(Edges.MOST, 8), (x, c) -> x.answer(12, c), 0, 9);
        edges.bad(20, "BAD ahead of STATE", () -> Edges.of(SHORT), x -> x.answer(3, 0));
        edges.bad(20, "BAD ahead of STATE", () -> Edges.of(SHORT), x -> x.answer(0, 5));
        edges.bad(20, "BAD ahead of FULL", EdgeEveningTest::full, x -> x.answer(2, 0));
        edges.bad(20, "BAD ahead of FULL", EdgeEveningTest::full, x -> x.answer(1, 2));
        edges.answers(20, "to a claim at a loss", () -> begun(SHORT, 0), x -> x.answer(0, 1), 1);
        edges.answers(20, "to a lost", () -> begun(SHORT, 0), x -> x.answer(0, 2), 1);
        edges.answers(20, "it goes on", () -> begun(SHORT, 0), x -> x.answer(1, 4), 0);
        edges.answers(20, "to an end", () -> begun(SHORT, 4), x -> x.answer(2, 3), 1);
        edges.answers(20, "to what is barred each way", () -> lawful(begun(Edges.ROUND, 0)), x -> x.answer(0, 1), 0);
        edges.answers(20, "by the last reason", () -> begun(Edges.MOST, 8), x -> x.answer(13, 0), 0);
    }

    private static void answerNotNow() {
        edges.state(20, "no evening", () -> Edges.of(SHORT), x -> x.answer(0, 1));
        edges.state(20, "over at an end", () -> begun(SHORT, 3), x -> x.answer(2, 3));
        edges.state(20, "over at a lost", () -> begun(SHORT, 2), x -> x.answer(0, 1));
        edges.state(20, "over at a loss", () -> begun(SHORT, 1), x -> x.answer(0, 1));
        edges.state(20, "a reason for another", () -> begun(SHORT, 0), x -> x.answer(2, 3));
        edges.state(20, "no part", () -> begun(SHORT, 0), x -> x.answer(0, 4));
        edges.state(20, "itself", () -> begun(SHORT, 0), x -> x.answer(0, 0));
        edges.state(20, "the part is taken away", () -> without(begun(SHORT, 0), 1), x -> x.answer(0, 1));
        edges.state(20, "another part is taken away", () -> without(begun(SHORT, 0), 1), x -> x.answer(0, 2));
        edges.state(20, "the claim is taken away", () -> without(begun(SHORT, 0), 0), x -> x.answer(1, 4));
        edges.state(20, "the first claim is barred", Edges::rich, x -> x.answer(7, 6));
        edges.state(20, "where it began is barred", () -> lawful(Edges.after(Edges.ROUND, 1)), x -> x.answer(1, 0));
        edges.answers(20, "without the law it is not", () -> Edges.after(Edges.ROUND, 1), x -> x.answer(1, 0), 0);
        String parts = "cceb0119b12029";
        edges.state(20, "the part is barred", () -> lawful(Edges.after(parts, 1)), x -> x.answer(1, 0));
        edges.answers(20, "the other is not", () -> lawful(Edges.after(parts, 1)), x -> x.answer(1, 2), 1);
    }

    private static void answersAtMost() {
        WhyRoom x = Edges.after(Edges.ROUND, 38);
        edges.is(20, "38 answers", x.count(2), 38);
        edges.is(20, "the 39th", x.answer(0, 1), 0);
        edges.is(20, "39 answers", x.count(2), 39);
        edges.full(20, "a 40th", EdgeEveningTest::full, y -> y.answer(1, 0));
        edges.is(20, "to an end by the 39th", endedAtMost().count(2), 39);
        WhyRoom y = full();
        y.undo(38);
        edges.is(20, "undone, there is room", y.answer(0, 1), 0);
        edges.is(20, "full again", y.answer(1, 0), Edges.FULL);
        y.begin(0);
        edges.is(20, "begun anew, there is room", y.answer(0, 1), 0);
    }

    private static WhyRoom endedAtMost() {
        WhyRoom x = Edges.after(WAY_OUT, 38);
        x.answer(2, 2);
        return x;
    }

    private static void fullIsLast() {
        edges.state(20, "over, and full", EdgeEveningTest::endedAtMost, x -> x.answer(0, 1));
        edges.state(20, "for another, and full", EdgeEveningTest::full, x -> x.answer(0, 1));
        edges.state(20, "no part, and full", EdgeEveningTest::full, x -> x.answer(1, 1));
        edges.state(20, "not usable, and full", () -> without(full(), 0), x -> x.answer(1, 0));
        edges.state(20, "barred, and full", () -> lawful(full()), x -> x.answer(1, 0));
    }

    // ---- promise 21

    private static void undo() {
        edges.range(21, "from", EdgeEveningTest::full, (x, n) -> x.undo(n), 0, 39);
        edges.range(21, "from, of two", Edges::rich, (x, n) -> x.undo(n), 0, 2);
        edges.range(21, "from, of none", () -> begun(SHORT, 0), (x, n) -> x.undo(n), 0, 0);
        edges.range(21, "from, no evening", () -> Edges.of(SHORT), (x, n) -> x.undo(n), 0, 0);
        edges.answers(21, "all", EdgeEveningTest::full, x -> x.undo(0), 39);
        edges.answers(21, "all but one", EdgeEveningTest::full, x -> x.undo(1), 38);
        edges.answers(21, "the last", EdgeEveningTest::full, x -> x.undo(38), 1);
        edges.answers(21, "none", EdgeEveningTest::full, x -> x.undo(39), 0);
        edges.onlyTells(21, "none", EdgeEveningTest::full, x -> x.undo(39));
        edges.onlyTells(21, "none, of none", () -> begun(SHORT, 0), x -> x.undo(0));
        edges.onlyTells(21, "no evening", () -> Edges.of(SHORT), x -> x.undo(0));
        edges.answers(21, "at where it began", EdgeEveningTest::full, x -> x.undo(0) * 0 + x.here(), 0);
        edges.answers(21, "at what was asked of then", EdgeEveningTest::full, x -> x.undo(17) * 0 + x.here(), 1);
        WhyRoom x = Edges.rich();
        x.undo(1);
        edges.is(21, "what was undone bars no more", x.may(), 1 << 6);
        edges.is(21, "and may be asked of", x.answer(6, 8), 0);
        WhyRoom y = endedAtMost();
        edges.is(21, "over", y.ends(), 1);
        y.undo(38);
        edges.is(21, "not over now", y.ends(), 0);
    }

    // ---- promises 22, 23, 24

    private static void here() {
        edges.state(22, "no evening", () -> Edges.of(SHORT), x -> x.here());
        edges.state(22, "no evening in a new room", () -> roomAgain(Edges.rich()), x -> x.here());
        edges.tells(22, "at first", () -> begun(Edges.MOST, 9), x -> x.here(), 9, 0);
        edges.tells(22, "behind one", () -> Edges.after(Edges.ROUND, 1), x -> x.here(), 1, 1);
        edges.tells(22, "behind 39", EdgeEveningTest::full, x -> x.here(), 1, 39);
        edges.tells(22, "taken away", () -> without(full(), 1), x -> x.here(), 1, 39);
    }

    private static WhyRoom roomAgain(WhyRoom x) {
        x.room(0);
        return x;
    }

    private static void may() {
        edges.state(23, "no evening", () -> Edges.of(SHORT), x -> x.may());
        edges.onlyTells(23, "may", Edges::rich, x -> x.may());
        edges.answers(23, "four", () -> begun(Edges.MOST, 0), x -> x.may(), 15);
        edges.answers(23, "the last two", () -> begun(Edges.MOST, 8), x -> x.may(), 1 << 12 | 1 << 13);
        edges.answers(23, "over at an end", () -> begun(Edges.MOST, 9), x -> x.may(), 0);
        edges.answers(23, "over at a loss", () -> begun(Edges.MOST, 3), x -> x.may(), 0);
        edges.answers(23, "one is usable", () -> without(begun(SHORT, 0), 2), x -> x.may(), 2);
        edges.answers(23, "none is usable", () -> without(begun(SHORT, 4), 3), x -> x.may(), 0);
        edges.answers(23, "taken away", () -> without(begun(SHORT, 0), 0), x -> x.may(), 0);
        edges.answers(23, "behind 39, full or not", EdgeEveningTest::full, x -> x.may(), 2);
    }

    private static void mayByTheLaw() {
        edges.answers(23, "all is barred", Edges::rich, x -> x.may(), 0);
        edges.answers(23, "nothing without the law", Edges::rich, x -> x.law(0) * 0 + x.may(), 1 << 7);
        edges.answers(23, "at first nothing", () -> lawful(begun(SHORT, 0)), x -> x.may(), 3);
        String some = "cceb0119b1109b12029b1129";
        edges.answers(23, "one part is left", () -> lawful(Edges.after(some, 1)), x -> x.may(), 12);
        edges.answers(23, "nothing is barred where it begins", () -> lawful(begun(some, 1)), x -> x.may(), 14);
    }

    private static void ends() {
        edges.state(24, "no evening", () -> Edges.of(SHORT), x -> x.ends());
        edges.onlyTells(24, "ends", Edges::rich, x -> x.ends());
        edges.answers(24, "goes on", () -> begun(SHORT, 0), x -> x.ends(), 0);
        edges.answers(24, "an end", () -> begun(SHORT, 3), x -> x.ends(), 1);
        edges.answers(24, "an end taken away since", () -> without(begun(SHORT, 3), 3), x -> x.ends(), 1);
        edges.answers(24, "a lost", () -> begun(SHORT, 2), x -> x.ends(), 2);
        edges.answers(24, "no reasons", () -> begun(SHORT, 1), x -> x.ends(), 2);
        edges.answers(24, "no usable ones", () -> without(begun(SHORT, 4), 3), x -> x.ends(), 2);
        edges.answers(24, "taken away since", () -> without(begun(SHORT, 0), 0), x -> x.ends(), 2);
        edges.answers(24, "a loss by the law, too", () -> lawful(begun(SHORT, 1)), x -> x.ends(), 2);
        edges.answers(24, "each is barred", Edges::rich, x -> x.ends(), 3);
        edges.answers(24, "each is barred, and not usable", () -> without(Edges.rich(), 6), x -> x.ends(), 2);
        edges.answers(24, "none without the law", Edges::rich, x -> x.law(0) * 0 + x.ends(), 0);
        edges.answers(24, "not each is barred", () -> lawful(Edges.after("cceb0119b1109b1129", 1)), x -> x.ends(), 0);
        edges.answers(24, "full, it goes on", EdgeEveningTest::full, x -> x.ends(), 0);
    }

    // ---- promise 25

    private static void asks() {
        edges.range(25, "row", Edges::rich, (x, r) -> x.asks(r), 0, 5);
        edges.bad(25, "BAD ahead of STATE", () -> Edges.of(SHORT), x -> x.asks(6));
        edges.state(25, "no evening", () -> Edges.of(SHORT), x -> x.asks(0));
        edges.state(25, "no evening, a row there", () -> roomAgain(Edges.rich()), x -> x.asks(0));
        edges.answers(25, "one", () -> begun(SHORT, 0), x -> x.asks(5), 1);
        edges.answers(25, "forty", EdgeEveningTest::full, x -> x.asks(0), 40);
        WhyRoom x = full();
        int[] all = new int[40];
        for (int i = 0; i < 40; i++) {
            all[i] = i % 2;
        }
        x.asks(3);
        edges.isRow(25, "all forty", x, 3, all);
    }

    private static void asksAnew() {
        WhyRoom x = Edges.rich();
        edges.is(25, "into a longer row", x.asks(0), 3);
        edges.isRow(25, "into a longer row", x, 0, 0, 6, 8);
        edges.is(25, "into an empty row", x.asks(1), 3);
        edges.isRow(25, "into an empty row", x, 1, 0, 6, 8);
        edges.is(25, "rows there", x.count(6), 3);
        edges.is(25, "into a missing row", x.asks(5), 3);
        edges.isRow(25, "into a missing row", x, 5, 0, 6, 8);
        edges.is(25, "rows there", x.count(6), 4);
        edges.is(25, "what is behind", x.row(0, 40), 40);
        edges.isRow(25, "what is behind", x, 0, new int[40]);
    }

    // ---- promises 26, 27

    private static void image() {
        edges.range(26, "place", Edges::rich, (x, k) -> x.image(k), 0, 2);
        edges.bad(26, "BAD ahead of STATE", WhyRoom::new, x -> x.image(3));
        edges.state(26, "no claims", WhyRoom::new, x -> x.image(0));
        edges.state(26, "no claims by a fault", EdgeEveningTest::faulty, x -> x.image(2));
        edges.answers(26, "no evening", () -> Edges.of(SHORT), x -> x.image(0), 0);
        edges.answers(26, "no answers", () -> begun(SHORT, 0), x -> x.image(1), 0);
        edges.answers(26, "two answers", Edges::rich, x -> x.image(1), 2);
        edges.answers(26, "39 answers", EdgeEveningTest::full, x -> x.image(2), 39);
        WhyRoom x = Edges.rich();
        edges.is(26, "kept", x.count(8), 2);
        x.image(2);
        edges.is(26, "in the same place", x.count(8), 2);
        edges.is(26, "the later one", x.on(2), 2);
        x.image(1);
        edges.is(26, "in another place", x.count(8), 3);
        edges.is(26, "the first one", x.on(0), 0);
    }

    private static WhyRoom faulty() {
        WhyRoom x = new WhyRoom();
        Edges.write(x, 0, "ce b");
        x.room(0);
        return x;
    }

    private static void imageIsACopy() {
        WhyRoom x = Edges.rich();
        x.image(1);
        for (int again = 0; again < 2; again++) {
            x.undo(0);
            x.begin(8);
            x.answer(7, 6);
            x.away(0, 1);
            x.away(7, 0);
            x.learn(1, 0);
            x.trust(0, 7);
            x.trust(7, 7);
            x.law(0);
            edges.is(27, "kept", x.on(1), 2);
            edges.is(27, "where it was", x.here(), 8);
            edges.is(27, "asks", x.asks(3), 3);
            edges.isRow(27, "asks", x, 3, 0, 6, 8);
            edges.is(27, "taken away", x.count(3), 1);
            x.claim(7, 4);
            edges.is(27, "taken away", x.asked(), 1);
            edges.is(27, "words", x.mark(1, 4), 1);
            x.reason(0, 2);
            edges.is(27, "how sure", x.asked(), 2);
            x.reason(7, 2);
            edges.is(27, "how sure", x.asked(), 2);
            edges.is(27, "the law", x.law(1), 1);
            edges.is(27, "kept rooms stay", x.count(8), 3);
        }
    }

    private static void on() {
        edges.range(27, "place", Edges::rich, (x, k) -> x.on(k), 0, 2);
        edges.finds(27, "none kept there", Edges::rich, x -> x.on(1), NOTHING);
        edges.finds(27, "none kept at all", () -> Edges.of(SHORT), x -> x.on(0), NOTHING);
        edges.finds(27, "none without claims", WhyRoom::new, x -> x.on(2), NOTHING);
        edges.finds(27, "gone by a new room", () -> roomAgain(Edges.rich()), x -> x.on(0), NOTHING);
        edges.answers(27, "without an evening", Edges::rich, x -> x.on(0), 0);
        edges.answers(27, "with one", Edges::rich, x -> x.on(2), 1);
        WhyRoom x = Edges.rich();
        x.on(0);
        edges.is(27, "no evening", x.here(), STATE);
        edges.is(27, "no answers", x.count(2), 0);
        edges.is(27, "rows stay", x.count(6), 3);
        edges.is(27, "texts stay", x.count(7), 3);
        edges.is(27, "asked() stays", x.asked(), 12);
        edges.is(27, "lower() stays", x.lower(), 8);
        edges.is(27, "upper() stays", x.upper(), 1);
        edges.is(27, "finding() stays", x.finding(), Edges.SIZE);
        edges.is(27, "the evening again", x.on(2), 1);
        edges.is(27, "gone on from", x.answer(6, 8), 0);
        edges.is(27, "as kept", x.on(2), 1);
    }

    /** All forty CLAIMS asked of come back, though forty others were asked of since. */
    private static void onAtMost() {
        WhyRoom x = full();
        x.image(0);
        x.begin(1);
        for (int i = 0; i < 39; i++) {
            x.answer((i + 1) % 2, i % 2);
        }
        edges.is(27, "the other way round", x.here(), 0);
        x.image(1);
        edges.is(27, "39 answers", x.on(0), 39);
        edges.is(27, "where it was", x.here(), 1);
        x.asks(2);
        int[] all = new int[40];
        for (int i = 0; i < 40; i++) {
            all[i] = i % 2;
        }
        edges.isRow(27, "all forty", x, 2, all);
        edges.is(27, "full", x.answer(1, 0), Edges.FULL);
        edges.is(27, "the other one", x.on(1), 39);
        edges.is(27, "the other one", x.here(), 0);
    }
}
