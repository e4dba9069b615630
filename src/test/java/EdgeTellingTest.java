/** Promises 48 to 54 at their edges: what is told, by which calls and by which not; and an object's 512 calls. */
public final class EdgeTellingTest {
    private static final int NONE = Edges.NONE, NOTHING = Edges.NOTHING;
    private static final Edges edges = new Edges();

    public static void main(String[] args) {
        askedIsTold();
        askedStays();
        chancesStay();
        chancesAreTold();
        count();
        countsAtMost();
        findingsOfEachKind();
        findingsCount();
        digestOfANewObject();
        digestOfMuch();
        digestOfEvenings();
        digestIsOfTheStateAlone();
        fiveHundredAndTwelveCalls();
        edges.end(48, 54);
    }

    // ---- promise 48

    private static void askedIsTold() {
        edges.tells(48, "before", Edges::rich, x -> 0, 0, 12);
        edges.tells(48, "lay", Edges::rich, x -> x.lay(0, 0, 5), 1, 11);
        edges.tells(48, "at", Edges::rich, x -> x.at(0, 39), 1, -7);
        edges.tells(48, "mean", Edges::rich, x -> x.mean(2), 1, 4);
        edges.tells(48, "claim", Edges::rich, x -> x.claim(1, 0), 1, 4);
        edges.tells(48, "reason", Edges::rich, x -> x.reason(1, 2), 1, 4);
        edges.tells(48, "here", Edges::rich, x -> x.here(), 8, 2);
        edges.tells(48, "stands", Edges::rich, x -> x.stands(), 15, 0x170);
        edges.tells(48, "soonest", Edges::rich, x -> x.soonest(0), 2, 0);
        edges.tells(48, "soonest of an end", Edges::rich, x -> x.soonest(3), 0, NONE);
        edges.tells(48, "soonest, NONE", Edges::rich, x -> x.soonest(6), NONE, 12);
        edges.tells(48, "words", Edges::rich, x -> x.words(0), 0, 0);
        edges.tells(48, "words, NONE", Edges::rich, x -> x.words(6), NONE, 12);
        edges.tells(48, "thin", Edges::rich, x -> x.thin(0), 5, 0);
        edges.tells(48, "thin, NONE", Edges::rich, x -> x.thin(3), NONE, 12);
        edges.tells(48, "falls", Edges::rich, x -> x.falls(0), 1, 2);
        edges.tells(48, "falls, it does not stand", Edges::rich, x -> x.falls(6), 0, 0);
        edges.tells(48, "falls, NONE", Edges::rich, x -> x.falls(3), NONE, 12);
        edges.tells(48, "whose", Edges::rich, x -> x.whose(0), 0, 0);
        edges.tells(48, "whose, it does not stand", Edges::rich, x -> x.whose(6), 0, 0);
        edges.tells(48, "judge", Edges::rich, x -> x.judge(2), 2, 3);
        edges.tells(48, "held", Edges::rich, x -> x.held(2), 325, 8);
        edges.tells(48, "lied", Edges::rich, x -> x.lied(2), 0, NONE);
        edges.tells(48, "the latest of two", Edges::rich, x -> x.here() * 0 + x.at(0, 0), 1, 11);
        edges.tells(48, "asked twice", Edges::rich, x -> x.here() * 0 + x.asked(), 2, 2);
    }

    /** Calls that are not refused and tell nothing by asked(). */
    private static final Edges.Call[] SILENT = {x -> x.row(4, 3), x -> x.tear(0), x -> x.copy(0, 0, 2, 0, 5), x -> x.text(3, 9),
        x -> x.put(0, 0, 99), x -> x.fault(1), x -> x.room(0), x -> x.mark(4, 1), x -> x.mark(1, 4), x -> x.trust(0, 9),
        x -> x.away(0, 1), x -> x.learn(1, 0), x -> x.law(0), x -> x.begin(0), x -> x.law(0) * 0 + x.answer(7, 6),
        x -> x.undo(1), x -> x.may(), x -> x.ends(), x -> x.asks(0), x -> x.image(1), x -> x.on(0), x -> x.steps(0),
        x -> x.sure(0), x -> x.longest(0, 0), x -> x.lost(), x -> x.never(0), x -> x.game(4), x -> x.agree(0),
        x -> x.without(3), x -> x.fits(6, 8, 1), x -> x.law(0) * 0 + x.night(20, 1), x -> x.asked(), x -> x.upper(),
        x -> x.lower(), x -> x.count(0), x -> x.finding(), x -> x.findings(1)};

    private static void askedStays() {
        for (int i = 0; i < SILENT.length; i++) {
            WhyRoom x = Edges.rich();
            edges.is(48, "silent call " + i + " is not refused", SILENT[i].on(x) >= 0 ? 1 : 0, 1);
            edges.is(48, "silent call " + i, x.asked(), 12);
        }
        WhyRoom x = Edges.rich();
        x.digest();
        x.odds(0, 6);
        edges.is(48, "digest, odds", x.asked(), 12);
        edges.is(48, "before", new WhyRoom().asked(), 0);
    }

    // ---- promises 49, 50

    private static void chancesStay() {
        for (int i = 0; i < SILENT.length; i++) {
            WhyRoom x = Edges.rich();
            SILENT[i].on(x);
            edges.is(49, "silent call " + i, x.upper(), 1);
            edges.is(50, "silent call " + i, x.lower(), 8);
        }
        edges.is(49, "before", new WhyRoom().upper(), 0);
        edges.is(50, "before", new WhyRoom().lower(), 1);
    }

    private static void chancesAreTold() {
        WhyRoom x = Edges.rich();
        x.odds(3, 6);
        edges.is(49, "0 by 1", x.upper(), 0);
        edges.is(50, "0 by 1", x.lower(), 1);
        x.odds(4, 0);
        edges.is(49, "1 by 1", x.upper(), 1);
        edges.is(50, "1 by 1", x.lower(), 1);
        edges.is(46, "refused", x.odds(0, 7), Edges.BAD);
        edges.is(49, "refused", x.upper(), 1);
        edges.is(50, "refused", x.lower(), 1);
    }

    // ---- promise 51

    private static void count() {
        edges.range(51, "what", Edges::rich, (x, what) -> x.count(what), 0, 8);
        edges.range(51, "what, at first", WhyRoom::new, (x, what) -> x.count(what), 0, 8);
        int[] rich = {9, 8, 2, 1, 1, 3, 3, 3, 2};
        for (int i = 0; i <= 8; i++) {
            int what = i;
            edges.answers(51, "what " + i, Edges::rich, x -> x.count(what), rich[i]);
            edges.onlyTells(51, "what " + i, Edges::rich, x -> x.count(what));
        }
    }

    private static void countsAtMost() {
        edges.answers(51, "claims", Edges::most, x -> x.count(0), 10);
        edges.answers(51, "reasons", Edges::most, x -> x.count(1), 14);
        edges.answers(51, "answers", () -> Edges.after(Edges.ROUND, 39), x -> x.count(2), 39);
        edges.answers(51, "answers, of a new evening", () -> Edges.after(Edges.ROUND, 0), x -> x.count(2), 0);
        edges.answers(51, "ends", () -> Edges.of("elelelelel"), x -> x.count(5), 10);
        edges.answers(51, "no ends", () -> Edges.of("cahm"), x -> x.count(5), 0);
        WhyRoom x = Edges.of("hhhhhhhhhh");
        for (int i = 0; i < 10; i++) {
            x.away(i, 1);
            x.learn(i, 1);
            x.row(Math.min(i, 5), 0);
            x.text(Math.min(i, 3), 0);
            x.image(Math.min(i, 2));
        }
        int[] most = {10, 0, 0, 10, 10, 0, 6, 4, 3};
        for (int what = 0; what <= 8; what++) {
            edges.is(51, "at most, " + what, x.count(what), most[what]);
        }
    }

    // ---- promises 52, 53

    private static void findingsOfEachKind() {
        edges.range(53, "finding", Edges::rich, (x, f) -> x.findings(f), 1, 5);
        edges.range(53, "finding, at first", WhyRoom::new, (x, f) -> x.findings(f), 1, 5);
        edges.onlyTells(53, "findings", Edges::rich, x -> x.findings(5));
        edges.onlyTells(52, "finding", Edges::rich, x -> x.finding());
        edges.answers(52, "the latest", Edges::rich, x -> x.finding(), Edges.SIZE);
        int[] rich = {1, 0, 0, 1, 1};
        for (int i = 1; i <= 5; i++) {
            int f = i;
            edges.answers(53, "finding " + f, Edges::rich, x -> x.findings(f), rich[f - 1]);
        }
        Edges.Call[] calls = {x -> x.at(4, 0), x -> x.at(0, 40), x -> x.mark(0, 1), x -> x.mean(1), x -> x.row(0, -1)};
        for (int f = 1; f <= 5; f++) {
            edges.finds(52, "finding " + f, Edges::rich, calls[f - 1], f);
        }
    }

    private static void findingsCount() {
        WhyRoom x = new WhyRoom();
        for (int i = 1; i <= 400; i++) {
            x.tear(i % 6);
        }
        edges.is(53, "four hundred", x.findings(NOTHING), 400);
        x.row(0, 41);
        x.here();
        x.claim(0, 0);
        x.findings(0);
        x.findings(6);
        edges.is(53, "what is no finding", x.findings(NOTHING), 400);
        edges.is(52, "what is no finding", x.finding(), NOTHING);
        x.row(0, 0);
        x.mean(0);
        edges.is(52, "the latest", x.finding(), Edges.NOUGHT);
        x.row(0, 1);
        x.mean(0);
        edges.is(52, "stays", x.finding(), Edges.NOUGHT);
        WhyRoom kept = Edges.rich();
        kept.room(0);
        edges.is(52, "a new room leaves it", kept.finding(), Edges.SIZE);
        edges.is(53, "a new room leaves them", kept.findings(Edges.SIZE), 1);
    }

    // ---- promise 54

    private static final class Fold {
        long h = 17;

        void with(long... values) {
            for (long v : values) {
                h = 31 * h + v;
            }
        }

        void withText(String text) {
            with(text.length());
            for (int i = 0; i < text.length(); i++) {
                with((byte) text.charAt(i));
            }
        }
    }

    private static void digestOfANewObject() {
        Fold fold = new Fold();
        fold.with(0, 0, 0, 0, 0, 0, 0, 0, 0);
        fold.with(0);
        fold.with(-1);
        fold.with(-1, -1, -1);
        fold.with(-1, -1, -1, -1, -1, -1);
        fold.with(-1, -1, -1, -1);
        edges.is(54, "new", new WhyRoom().digest(), fold.h);
        WhyRoom x = new WhyRoom();
        x.row(0, 0);
        x.text(3, 0);
        x.law(1);
        fold = new Fold();
        fold.with(0, 0, 0, 0, 0, 0, 1, 1, 0, 1, -1, -1, -1, -1, 0, -1, -1, -1, -1, -1, -1, -1, -1, 0);
        edges.is(54, "empty ones are not missing", x.digest(), fold.h);
    }

    /** As much as there can be of each. */
    private static void digestOfMuch() {
        WhyRoom x = Edges.most();
        x.text(1, 0);
        Edges.write(x, 2, "" + (char) 255 + (char) 128 + (char) 127);
        int[] row = new int[40];
        for (int i = 0; i < 40; i++) {
            row[i] = i == 0 ? Edges.MIN : Edges.MAX - i;
        }
        Edges.tell(x, 0, row);
        x.row(5, 0);
        x.image(2);
        x.begin(8);
        x.answer(13, 0);
        x.answer(3, 9);
        x.image(0);
        x.learn(8, 1);
        x.law(1);
        x.trust(13, 1);
        x.away(4, 1);
        Fold fold = new Fold();
        fold.with(10, 14, 2, 1, 1, 1, 2, 3, 2);
        fold.with(1);
        int[] kinds = {0, 0, 0, 0, 0, 0, 0, 0, 4, 1};
        int[] reasons = {15, 0xf0, 0xf00, 0, 0, 0, 0, 0, 0x3000, 0};
        int[] parts = {1 << 13, 0, 0, 1 << 11, 0, 0, 0, 1 << 6, 1 << 5, 0x179f};
        int[] stands = {1, 1, 1, 0, 0, 0, 0, 0, 1, 1};
        for (int c = 0; c < 10; c++) {
            fold.with(kinds[c], reasons[c], parts[c], stands[c], c == 4 ? 1 : 0);
        }
        int[][] told = {{0, 9, 1}, {0, 9, 2}, {0, 9, 3}, {0, 9, 4}, {1, 9, 5}, {1, 8, 6}, {1, 7, 7}, {1, 9, 8}, {2, 9, 9}, {2, 9, 1},
            {2, 9, 2}, {2, 3, 3}, {8, 9, 4}, {8, 0, 1}};
        for (int[] reason : told) {
            fold.with(reason[0], 1 << reason[1], reason[2]);
        }
        fold.with(8, 0, 9);
        fold.with(2, -1, 0);
        fold.with(40);
        for (int v : row) {
            fold.with(v);
        }
        fold.with(-1, -1, -1, -1, 0);
        fold.withText(Edges.MOST);
        fold.with(0);
        fold.with(3, -1, -128, 127);
        fold.with(-1);
        edges.is(54, "much of it", x.digest(), fold.h);
    }

    private static void digestOfEvenings() {
        for (int answers = -1; answers <= 39; answers++) {
            WhyRoom x = answers < 0 ? Edges.of(Edges.ROUND) : Edges.after(Edges.ROUND, answers);
            x.image(1);
            Fold fold = new Fold();
            fold.with(2, 2, Math.max(0, answers), 0, 0, 0, 0, 1, 1, 0);
            fold.with(0, 1, 2, 0, 0, 0, 2, 1, 0, 0);
            fold.with(0, 2, 9, 1, 1, 9);
            if (answers < 0) {
                fold.with(-1);
            }
            for (int i = 0; i <= answers; i++) {
                fold.with(i % 2);
            }
            fold.with(-1, Math.max(0, answers), -1);
            fold.with(-1, -1, -1, -1, -1, -1);
            fold.withText(Edges.ROUND);
            fold.with(-1, -1, -1);
            edges.is(54, answers + " answers", x.digest(), fold.h);
        }
    }

    private static void digestIsOfTheStateAlone() {
        WhyRoom x = Edges.rich();
        long before = x.digest();
        x.at(0, 0);
        edges.is(54, "asked() is not in it", x.digest(), before);
        x.odds(3, 1);
        edges.is(54, "chances are not in it", x.digest(), before);
        x.at(4, 0);
        edges.is(54, "findings are not in it", x.digest(), before);
        edges.onlyTells(54, "digest", Edges::rich, y -> y.digest());
    }

    /** What the 512th call answers is promised. */
    private static void fiveHundredAndTwelveCalls() {
        WhyRoom x = new WhyRoom();
        int calls = 0;
        for (int i = 0; i < 509; i++) {
            x.law(i % 2);
            calls++;
        }
        x.text(3, 80);
        x.row(5, 40);
        calls += 2;
        WhyRoom twin = new WhyRoom();
        twin.row(5, 40);
        twin.text(3, 80);
        edges.is(54, "calls ahead of the last", calls, 511);
        edges.is(54, "the 512th call", x.digest(), twin.digest());
        WhyRoom full = Edges.after(Edges.ROUND, 39);
        // A text, its bytes, a room, a beginning and 39 answers were 54 calls.
        for (int i = 54; i < 511; i++) {
            full.answer(1, 0);
        }
        edges.is(20, "the 512th call", full.answer(1, 0), Edges.FULL);
    }
}
