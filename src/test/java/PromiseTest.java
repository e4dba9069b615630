/** Each promise of the document by hand: ordinary inputs, the edges that it names, wrong inputs. */
public final class PromiseTest {
    private static final int BAD = -1, FULL = -2, FINDING = -3, STATE = -4, NONE = -9;
    private static final int MAX = Integer.MAX_VALUE, MIN = Integer.MIN_VALUE;
    private static int wrong;
    private static int looked;

    // 0 by 1, or by 2 and 6; 1 by 3, or by 2 and 5; 2 by 3; 5 by 7; 6 by 8; 8 by 6: a round of 6 and 8.
    private static final String RAIN = "chaelmcec b0115 b02264 b1137 b12253 b2139 b5178 b6188 b8162";
    private static final String ROUND = "ccb0119b1109";

    private static void due(int promise, String what, long got, long want) {
        looked++;
        if (got != want) {
            wrong++;
            System.out.println("promise " + promise + ": " + what + " answered " + got + ", due is " + want);
        }
    }

    private static void finds(int promise, String what, WhyRoom x, int got, int finding) {
        due(promise, what, got, FINDING);
        due(promise, what + ", the finding", x.finding(), finding);
    }

    private static void write(WhyRoom x, int t, String text) {
        x.text(t, text.length());
        for (int i = 0; i < text.length(); i++) {
            x.put(t, i, text.charAt(i));
        }
    }

    private static WhyRoom of(String text) {
        WhyRoom x = new WhyRoom();
        write(x, 0, text);
        due(11, "room of " + text, x.room(0), x.count(0));
        due(11, "claims in " + text, x.count(0) > 0 ? 1 : 0, 1);
        return x;
    }

    private static int faultOf(String text) {
        WhyRoom x = new WhyRoom();
        write(x, 1, text);
        return x.fault(1);
    }

    private static void tell(WhyRoom x, int r, int... numbers) {
        x.row(r, numbers.length);
        for (int i = 0; i < numbers.length; i++) {
            x.lay(r, i, numbers[i]);
        }
    }

    private static void isRow(int promise, WhyRoom x, int r, int... numbers) {
        for (int i = 0; i < numbers.length; i++) {
            due(promise, "place " + i, x.at(r, i), 1);
            due(promise, "place " + i, x.asked(), numbers[i]);
        }
        finds(promise, "behind the row", x, x.at(r, numbers.length), 2);
    }

    public static void main(String[] args) {
        newObject();
        rows();
        copies();
        texts();
        faults();
        rooms();
        facts();
        marks();
        switches();
        evening();
        evenings39();
        laws();
        images();
        standing();
        least();
        longest();
        losses();
        words();
        agreeing();
        falling();
        whose();
        tales();
        fitting();
        odds();
        nights();
        counts();
        findings();
        digests();
        System.out.println(wrong == 0 ? looked + " answers are as due" : wrong + " answers are not as due");
        if (wrong != 0) {
            System.exit(1);
        }
    }

    private static void newObject() {
        WhyRoom x = new WhyRoom();
        for (int what = 0; what <= 8; what++) {
            due(1, "count " + what, x.count(what), 0);
        }
        due(1, "asked", x.asked(), 0);
        due(1, "finding", x.finding(), 0);
        due(1, "upper", x.upper(), 0);
        due(1, "lower", x.lower(), 1);
        due(1, "here", x.here(), STATE);
        due(1, "law was", x.law(1), 0);
        finds(1, "at", x, x.at(0, 0), 1);
        finds(1, "fault", x, x.fault(0), 1);
        finds(1, "on", x, x.on(0), 1);
    }

    private static void rows() {
        WhyRoom x = new WhyRoom();
        due(2, "row", x.row(5, 40), 40);
        due(2, "row of none", x.row(0, 0), 0);
        due(2, "41", x.row(5, 41), BAD);
        due(2, "most", x.row(5, MAX), BAD);
        due(2, "no row", x.row(6, -1), BAD);
        due(2, "no row", x.row(-1, 1), BAD);
        finds(2, "below 0", x, x.row(5, -1), 5);
        finds(2, "least", x, x.row(5, MIN), 5);
        due(2, "rows there", x.count(6), 2);
        due(3, "lay", x.lay(5, 39, MIN), 1);
        due(3, "it was", x.asked(), 0);
        due(3, "lay", x.lay(5, 39, 7), 1);
        due(3, "it was", x.asked(), MIN);
        due(3, "no row", x.lay(6, 0, 1), BAD);
        finds(3, "missing", x, x.lay(1, 0, 1), 1);
        finds(3, "beyond", x, x.lay(5, 40, 1), 2);
        finds(3, "before", x, x.lay(5, -1, 1), 2);
        finds(3, "none there", x, x.lay(0, 0, 1), 2);
        due(3, "asked stays", x.asked(), MIN);
        due(4, "at", x.at(5, 39), 1);
        due(4, "it is", x.asked(), 7);
        due(4, "no row", x.at(-1, 0), BAD);
        finds(4, "missing", x, x.at(4, 0), 1);
        finds(4, "beyond", x, x.at(5, MAX), 2);
        due(2, "anew", x.row(5, 40), 40);
        x.at(5, 39);
        due(2, "anew, of 0", x.asked(), 0);
        due(5, "tear", x.tear(5), 1);
        finds(5, "twice", x, x.tear(5), 1);
        due(5, "no row", x.tear(6), BAD);
        due(5, "rows there", x.count(6), 1);
        tell(x, 1, 7, -12, 3);
        due(7, "mean", x.mean(1), 1);
        due(7, "mean, cut", x.asked(), 0);
        tell(x, 1, -7, -8);
        x.mean(1);
        due(7, "mean, cut", x.asked(), -7);
        tell(x, 1, MAX, MAX, MAX);
        x.mean(1);
        due(7, "mean of the most", x.asked(), MAX);
        tell(x, 1, MIN, MIN);
        x.mean(1);
        due(7, "mean of the least", x.asked(), MIN);
        x.row(2, 40);
        x.lay(2, 39, -81);
        x.mean(2);
        due(7, "mean of forty", x.asked(), -2);
        tell(x, 1, MIN, MIN);
        x.mean(1);
        due(7, "no row", x.mean(6), BAD);
        finds(7, "missing", x, x.mean(5), 1);
        finds(7, "among none", x, x.mean(0), 4);
        due(7, "asked stays", x.asked(), MIN);
    }

    private static void copies() {
        WhyRoom x = new WhyRoom();
        tell(x, 0, 1, 2, 3, 4, 5);
        tell(x, 1, 9, 9, 9);
        due(6, "to another", x.copy(0, 3, 1, 0, 2), 1);
        isRow(6, x, 1, 4, 5, 9);
        due(6, "onto itself, on", x.copy(0, 0, 0, 1, 4), 1);
        isRow(6, x, 0, 1, 1, 2, 3, 4);
        due(6, "onto itself, back", x.copy(0, 2, 0, 0, 3), 1);
        isRow(6, x, 0, 2, 3, 4, 3, 4);
        due(6, "none at the end", x.copy(0, 5, 1, 3, 0), 1);
        due(6, "no row", x.copy(6, 0, 0, 0, -1), BAD);
        due(6, "no row", x.copy(0, 0, -1, 0, 0), BAD);
        finds(6, "below 0 ahead of missing", x, x.copy(5, 0, 4, 0, -1), 5);
        finds(6, "missing", x, x.copy(0, 9, 4, 0, 1), 1);
        finds(6, "missing", x, x.copy(4, 9, 0, 0, 1), 1);
        finds(6, "beyond", x, x.copy(0, 4, 1, 0, 2), 2);
        finds(6, "beyond", x, x.copy(0, 0, 1, 2, 2), 2);
        finds(6, "beyond by none", x, x.copy(0, 6, 1, 0, 0), 2);
        finds(6, "before", x, x.copy(0, -1, 1, 0, 1), 2);
        finds(6, "before", x, x.copy(0, 0, 1, -1, 1), 2);
        finds(6, "most", x, x.copy(0, MAX, 1, MAX, MAX), 2);
        isRow(6, x, 1, 4, 5, 9);
    }

    private static void texts() {
        WhyRoom x = new WhyRoom();
        due(8, "text", x.text(3, 80), 80);
        due(8, "text of none", x.text(0, 0), 0);
        due(8, "81", x.text(3, 81), BAD);
        due(8, "no text", x.text(4, -1), BAD);
        due(8, "no text", x.text(-1, 1), BAD);
        finds(8, "below 0", x, x.text(3, -1), 5);
        due(8, "texts there", x.count(7), 2);
        due(9, "a blank was", x.put(3, 79, 127), 1032);
        due(9, "it was", x.put(3, 79, 128), 1127);
        due(9, "cut to a byte", x.put(3, 79, -1), 1000 - 128);
        due(9, "cut to a byte", x.put(3, 79, 256 + 99), 999);
        due(9, "cut to a byte", x.put(3, 79, 0), 1099);
        due(9, "no text", x.put(4, 0, 0), BAD);
        finds(9, "missing", x, x.put(1, 0, 0), 1);
        finds(9, "beyond", x, x.put(3, 80, 0), 2);
        finds(9, "before", x, x.put(3, -1, 0), 2);
        due(8, "anew", x.text(3, 80), 80);
        due(8, "anew, of blanks", x.put(3, 79, 1), 1032);
    }

    private static void faults() {
        due(10, "one claim", faultOf("e"), NONE);
        due(10, "blanks around", faultOf("  c  e b0119  "), NONE);
        due(10, "all letters", faultOf("celahm"), NONE);
        due(10, "none", faultOf(""), 0);
        due(10, "blanks alone", faultOf("   "), 3);
        due(10, "no letter", faultOf("c x"), 2);
        due(10, "capital", faultOf("C"), 0);
        due(10, "above a byte's half", faultOf("c" + (char) 227), 1);
        due(10, "a figure for a claim", faultOf("c0"), 1);
        due(10, "reason ahead of claims", faultOf(" b"), 1);
        due(10, "claim behind a reason", faultOf("ccb0119 c"), 8);
        due(10, "eleven claims", faultOf("ccccc ccccc c"), 12);
        due(10, "ten claims", faultOf("ccccc ccccc "), NONE);
        due(10, "reason cut", faultOf("cc b"), 4);
        due(10, "claim that there is not", faultOf("cc b2"), 4);
        due(10, "an end's reason", faultOf("ce b1"), 4);
        due(10, "a lost's reason", faultOf("cl b1"), 4);
        due(10, "blank within", faultOf("cc b 0"), 4);
        due(10, "cut ahead of how many", faultOf("cc b0"), 5);
        due(10, "no part", faultOf("cc b00"), 5);
        due(10, "four parts", faultOf("cccccb04"), 7);
        due(10, "part that there is not", faultOf("cc b012"), 6);
        due(10, "itself", faultOf("cc b010"), 6);
        due(10, "told already", faultOf("ccc b0211"), 8);
        due(10, "cut ahead of sure", faultOf("cc b011"), 7);
        due(10, "not sure", faultOf("cc b0110"), 7);
        due(10, "blank ahead of sure", faultOf("cc b011 1"), 7);
        due(10, "three parts", faultOf("aehl b031231"), NONE);
        String four = "cccc" + "b0111b0122b0133b0119";
        due(10, "four reasons", faultOf(four), NONE);
        due(10, "five reasons", faultOf(four + " b0111"), 26);
        String many = four + "b1101b1121b1131b1101" + "b2101b2111b2131b2101" + "b3101b3111";
        due(10, "fourteen reasons", faultOf(many), NONE);
        due(10, "fifteen reasons", faultOf(many + "b"), 74);
        due(10, "fifteen reasons", faultOf(many + " b3121"), 75);
        WhyRoom x = new WhyRoom();
        due(10, "no text", x.fault(4), BAD);
        due(10, "no text", x.fault(-1), BAD);
        finds(10, "missing", x, x.fault(3), 1);
    }

    private static void rooms() {
        WhyRoom x = of(RAIN);
        due(11, "claims", x.count(0), 9);
        due(11, "reasons", x.count(1), 8);
        x.begin(0);
        x.answer(0, 1);
        x.away(6, 1);
        x.learn(1, 1);
        x.law(1);
        x.image(1);
        write(x, 1, "e cx");
        due(11, "a fault", x.room(1), STATE);
        finds(11, "missing ahead of a fault", x, x.room(2), 1);
        due(11, "no text", x.room(4), BAD);
        due(11, "answers stay", x.count(2), 1);
        due(11, "anew", x.room(0), 9);
        due(11, "no evening", x.here(), STATE);
        due(11, "nothing taken away", x.count(3), 0);
        due(11, "no word known", x.count(4), 0);
        due(11, "kept rooms go", x.count(8), 0);
        finds(11, "kept rooms go", x, x.on(1), 1);
        due(11, "the law is off", x.law(0), 0);
    }

    private static void facts() {
        WhyRoom x = of(RAIN);
        int[][] facts = {{0, 3, 0, 1, 0}, {4, 12, 1, 1, 0}, {3, 16, 10, 1, 0}, {1, 0, 20, 1, 0}, {2, 0, 0, 0, 0}, {5, 32, 8, 1, 0},
            {0, 64, 130, 0, 0}, {1, 0, 32, 1, 0}, {0, 128, 64, 0, 0}};
        for (int c = 0; c < 9; c++) {
            for (int what = 0; what < 5; what++) {
                due(12, "claim", x.claim(c, what), 1);
                due(12, "claim " + c + " " + what, x.asked(), facts[c][what]);
            }
        }
        x.away(3, 1);
        x.claim(3, 4);
        due(12, "taken away", x.asked(), 1);
        x.claim(2, 3);
        due(12, "stands no more", x.asked(), 0);
        due(12, "no claim", x.claim(9, 0), BAD);
        due(12, "no claim", x.claim(-1, 0), BAD);
        due(12, "no such", x.claim(0, 5), BAD);
        due(12, "no such", x.claim(0, -1), BAD);
        int[][] reasons = {{0, 2, 5}, {0, 68, 4}, {1, 8, 7}, {1, 36, 3}, {2, 8, 9}, {5, 128, 8}, {6, 256, 8}, {8, 64, 2}};
        for (int k = 0; k < 8; k++) {
            for (int what = 0; what < 3; what++) {
                due(13, "reason", x.reason(k, what), 1);
                due(13, "reason " + k + " " + what, x.asked(), reasons[k][what]);
            }
        }
        due(13, "no reason", x.reason(8, 0), BAD);
        due(13, "no reason", x.reason(-1, 0), BAD);
        due(13, "no such", x.reason(0, 3), BAD);
        due(13, "no such", x.reason(0, -1), BAD);
    }

    private static void marks() {
        WhyRoom x = of(RAIN);
        due(14, "an end", x.mark(3, 1), 2);
        due(14, "a lost as an end", x.mark(4, 1), 0);
        due(14, "a lost", x.mark(4, 2), 1);
        x.away(3, 1);
        due(14, "a lost, 2 at a loss", x.mark(4, 2), 2);
        x.away(3, 0);
        x.away(4, 1);
        due(14, "a lost, taken away itself", x.mark(4, 2), 0);
        due(14, "an act", x.mark(2, 3), 0);
        due(14, "hard, not known", x.mark(1, 4), 0);
        x.learn(1, 1);
        due(14, "hard, known", x.mark(1, 4), 1);
        due(14, "acts", x.mark(5, 5), 2);
        finds(14, "an act is no machine", x, x.mark(2, 5), 3);
        finds(14, "an end is no lost", x, x.mark(3, 2), 3);
        finds(14, "a machine is not hard", x, x.mark(5, 4), 3);
        due(14, "kind 0", x.mark(0, 0), BAD);
        due(14, "no kind", x.mark(0, 6), BAD);
        due(14, "no claim", x.mark(9, 1), BAD);
        WhyRoom y = of("cmce b0119 b1139 b2109");
        due(14, "a machine as an act", y.mark(1, 3), 2);
        y.away(1, 1);
        due(14, "an act taken away", y.mark(1, 3), 0);
    }

    private static void switches() {
        WhyRoom x = of(RAIN);
        due(15, "trust", x.trust(4, 1), 9);
        due(15, "trust", x.trust(4, 9), 1);
        due(15, "no reason", x.trust(8, 1), BAD);
        due(15, "no reason", x.trust(-1, 1), BAD);
        due(15, "0", x.trust(0, 0), BAD);
        due(15, "10", x.trust(0, 10), BAD);
        due(16, "away", x.away(8, 1), 0);
        due(16, "away", x.away(8, 1), 1);
        due(16, "how many", x.count(3), 1);
        due(16, "back", x.away(8, 0), 1);
        due(16, "how many", x.count(3), 0);
        due(16, "no claim", x.away(9, 1), BAD);
        due(16, "2", x.away(0, 2), BAD);
        due(16, "-1", x.away(0, -1), BAD);
        due(17, "learn", x.learn(1, 1), 0);
        due(17, "learn", x.learn(1, 1), 1);
        due(17, "how many", x.count(4), 1);
        due(17, "unlearn", x.learn(1, 0), 1);
        finds(17, "not hard", x, x.learn(0, 1), 3);
        due(17, "no claim", x.learn(9, 1), BAD);
        due(17, "2", x.learn(0, 2), BAD);
        due(18, "law", x.law(1), 0);
        due(18, "law", x.law(0), 1);
        due(18, "law", x.law(0), 0);
        due(18, "2", x.law(2), BAD);
        due(18, "-1", x.law(-1), BAD);
    }

    private static void evening() {
        WhyRoom x = of("cclea b02129 b0145 b4138");
        due(20, "no evening", x.answer(0, 1), STATE);
        due(21, "nothing to undo", x.undo(0), 0);
        due(21, "nothing to undo", x.undo(1), BAD);
        due(19, "begin", x.begin(0), 0);
        due(23, "may", x.may(), 3);
        due(24, "goes on", x.ends(), 0);
        due(20, "no part", x.answer(0, 3), STATE);
        due(20, "not for it", x.answer(2, 3), STATE);
        due(20, "no reason", x.answer(3, 1), BAD);
        due(20, "no claim", x.answer(0, 5), BAD);
        due(20, "at a loss", x.answer(0, 1), 1);
        due(24, "at a loss", x.ends(), 2);
        due(23, "over", x.may(), 0);
        due(20, "over", x.answer(0, 1), STATE);
        due(22, "here", x.here(), 1);
        due(22, "answers", x.asked(), 1);
        due(21, "undo", x.undo(0), 1);
        due(22, "here", x.here(), 0);
        due(22, "answers", x.asked(), 0);
        due(20, "to a lost", x.answer(0, 2), 1);
        due(24, "a lost is a loss", x.ends(), 2);
        x.undo(0);
        due(20, "goes on", x.answer(1, 4), 0);
        due(20, "to an end", x.answer(2, 3), 1);
        due(24, "an end", x.ends(), 1);
        due(25, "asks", x.asks(3), 3);
        isRow(25, x, 3, 0, 4, 3);
        due(25, "no row", x.asks(6), BAD);
        due(21, "below 0", x.undo(-1), BAD);
        due(21, "too many", x.undo(3), BAD);
        due(21, "none", x.undo(2), 0);
        due(21, "one", x.undo(1), 1);
        x.away(3, 1);
        due(24, "no usable reason", x.ends(), 2);
        due(20, "not usable", x.answer(2, 3), STATE);
        due(19, "taken away", x.begin(3), STATE);
        due(22, "it goes on", x.here(), 4);
        due(19, "over at once", x.begin(2), 1);
        due(24, "a loss at once", x.ends(), 2);
        due(19, "over at once", x.begin(4), 1);
        due(19, "no claim", x.begin(5), BAD);
        due(19, "no claim", x.begin(-1), BAD);
        WhyRoom none = of("e");
        due(22, "no evening", none.here(), STATE);
        due(23, "no evening", none.may(), STATE);
        due(24, "no evening", none.ends(), STATE);
        due(25, "no evening", none.asks(0), STATE);
        due(19, "an end", none.begin(0), 1);
        none.away(0, 1);
        due(24, "an end taken away is an end", none.ends(), 1);
    }

    private static void evenings39() {
        WhyRoom x = of(ROUND);
        x.begin(0);
        for (int i = 0; i < 39; i++) {
            due(20, "answer " + i, x.answer(i % 2, (i + 1) % 2), 0);
        }
        due(20, "full", x.answer(1, 0), FULL);
        due(20, "full is last", x.answer(0, 1), STATE);
        due(25, "asks", x.asks(0), 40);
        x.at(0, 39);
        due(25, "the last", x.asked(), 1);
        due(21, "undo", x.undo(40), BAD);
        due(21, "undo", x.undo(5), 34);
        due(2, "answers", x.count(2), 5);
    }

    private static void laws() {
        WhyRoom x = of("ccceb0119b1109b1129b2139b2109b0129");
        due(11, "claims", x.count(0), 4);
        x.law(1);
        x.begin(0);
        x.answer(0, 1);
        due(23, "by the law", x.may(), 4);
        due(20, "the law bars", x.answer(1, 0), STATE);
        due(20, "the law bars not", x.answer(2, 2), 0);
        due(23, "by the law", x.may(), 8);
        x.law(0);
        due(23, "without it", x.may(), 24);
        WhyRoom y = of(ROUND);
        y.law(1);
        y.begin(1);
        due(20, "barred is not over", y.answer(1, 0), 0);
        due(24, "the law bars each", y.ends(), 3);
        due(23, "none", y.may(), 0);
        y.law(0);
        due(24, "goes on", y.ends(), 0);
        WhyRoom z = of("cceb02129b12029");
        z.law(1);
        z.begin(0);
        z.answer(0, 1);
        due(23, "one part may be", z.may(), 2);
        due(20, "the other is barred", z.answer(1, 0), STATE);
        due(20, "that one", z.answer(1, 2), 1);
    }

    private static void images() {
        WhyRoom x = new WhyRoom();
        due(26, "no place", x.image(3), BAD);
        due(26, "no claims", x.image(0), STATE);
        x = of(RAIN);
        due(26, "without an evening", x.image(2), 0);
        x.begin(0);
        x.answer(1, 6);
        x.answer(6, 8);
        x.away(3, 1);
        x.learn(1, 1);
        x.trust(0, 1);
        x.law(1);
        due(26, "with one", x.image(0), 2);
        due(26, "kept", x.count(8), 2);
        long before = x.digest();
        due(27, "on", x.on(2), 0);
        due(27, "no evening", x.here(), STATE);
        due(27, "nothing away", x.count(3), 0);
        due(27, "no word", x.count(4), 0);
        x.reason(0, 2);
        due(27, "as sure", x.asked(), 5);
        due(27, "the law", x.law(0), 0);
        x.begin(7);
        due(27, "on", x.on(0), 2);
        due(27, "as it was", x.digest(), before);
        due(27, "here", x.here(), 8);
        due(27, "words", x.mark(1, 4), 1);
        due(27, "the law", x.law(0), 1);
        due(27, "again", x.on(0), 2);
        due(27, "the law again", x.law(1), 1);
        due(27, "no place", x.on(3), BAD);
        due(27, "no place", x.on(-1), BAD);
        finds(27, "none kept", x, x.on(1), 1);
    }

    private static void standing() {
        WhyRoom x = of(RAIN);
        due(28, "stands", x.stands(), 175);
        due(28, "all others", x.asked(), 336);
        x.away(3, 1);
        due(28, "stands without", x.stands(), 160);
        due(28, "all others not taken away", x.asked(), 343);
        WhyRoom y = of(ROUND);
        due(28, "a round", y.stands(), 0);
        due(28, "on a round", y.asked(), 3);
        WhyRoom z = new WhyRoom();
        due(28, "without claims", z.stands(), 0);
    }

    private static void least() {
        WhyRoom x = of("ccceel b02349 b0115 b1129 b2134 b2142");
        due(29, "soonest", x.soonest(0), 1);
        due(29, "by the first", x.asked(), 0);
        due(29, "soonest", x.soonest(1), 2);
        due(29, "by", x.asked(), 2);
        due(29, "an end", x.soonest(3), 0);
        due(29, "an end has none", x.asked(), NONE);
        due(29, "a lost", x.soonest(5), NONE);
        due(29, "asked stays", x.asked(), NONE);
        due(31, "sure", x.sure(0), 9);
        due(31, "sure", x.sure(2), 4);
        due(31, "the least sure", x.sure(1), 4);
        x.trust(4, 6);
        due(31, "the best way", x.sure(1), 6);
        due(31, "an end", x.sure(4), 9);
        due(31, "a lost", x.sure(5), NONE);
        x.away(3, 1);
        due(29, "another way", x.soonest(0), 3);
        due(29, "another way by", x.asked(), 1);
        due(31, "another way", x.sure(0), 5);
        due(30, "another way", x.steps(0), 3);
        due(29, "taken away", x.soonest(3), NONE);
        for (int no : new int[] {6, -1, MAX}) {
            due(29, "no claim", x.soonest(no), BAD);
            due(30, "no claim", x.steps(no), BAD);
            due(31, "no claim", x.sure(no), BAD);
        }
        WhyRoom y = of("ccccccccce b031231 b132341 b233451 b334561 b435671 b536781 b637891 b72891 b8191");
        int[] steps = {177, 96, 52, 28, 15, 8, 4, 2, 1, 0};
        int[] soonest = {9, 8, 7, 6, 5, 4, 3, 2, 1, 0};
        for (int c = 0; c < 10; c++) {
            due(30, "each time anew " + c, y.steps(c), steps[c]);
            due(29, "asked so that it lasts " + c, y.soonest(c), soonest[c]);
        }
        WhyRoom z = of("ccc b0119 b1129 b2109");
        due(30, "a round", z.steps(0), NONE);
    }

    private static void longest() {
        WhyRoom x = of(RAIN);
        due(32, "longest", x.longest(0, 1), 3);
        isRow(32, x, 1, 0, 1, 2, 3);
        x.away(2, 1);
        due(32, "without 2", x.longest(0, 1), 2);
        isRow(32, x, 1, 0, 1, 3);
        due(32, "taken away", x.longest(2, 5), 0);
        isRow(32, x, 5, 2);
        due(32, "no claim", x.longest(9, 0), BAD);
        due(32, "no row", x.longest(0, 6), BAD);
        WhyRoom y = of("cccceb0139b0129b0119b1109b1149b2149b3149");
        due(32, "the first such row", y.longest(0, 0), 2);
        isRow(32, y, 0, 0, 1, 4);
        due(32, "not twice", y.longest(1, 0), 3);
        isRow(32, y, 0, 1, 0, 2, 4);
    }

    private static void losses() {
        WhyRoom x = of("cccleca b02139 b0129 b1139 b2149 b5129 b5169 b6159");
        due(33, "lost", x.lost(), 10);
        due(35, "at a loss", x.game(3), 0);
        due(35, "one", x.game(1), 1);
        due(35, "never", x.game(0), NONE);
        due(34, "the first that never does", x.never(0), 1);
        due(34, "an end", x.never(4), NONE);
        due(34, "lost anyway", x.never(1), NONE);
        due(34, "by the first", x.never(5), 4);
        x.away(4, 1);
        due(33, "2 is at a loss, 0 brought there", x.lost(), 15);
        due(35, "at a loss", x.game(2), 0);
        due(35, "brought there by either", x.game(0), 1);
        due(35, "a round is no loss", x.game(5), NONE);
        due(34, "by the round", x.never(5), 5);
        due(34, "none", x.never(0), NONE);
        x.away(2, 1);
        due(33, "taken away ones at a loss, too", x.lost(), 15);
        due(34, "round for ever", x.never(6), 6);
        due(34, "no claim", x.never(7), BAD);
        due(35, "no claim", x.game(7), BAD);
        due(35, "no claim", x.game(-1), BAD);
        WhyRoom y = of("cccca b0119 b1129 b2139 b02139");
        due(35, "delayed by the longest", y.game(0), 3);
        WhyRoom z = of("cccc b0119 b1129 b2139 b02138");
        z.away(3, 0);
        due(33, "all", z.lost(), 15);
        due(35, "delayed", z.game(0), 3);
        due(35, "two", z.game(1), 2);
    }

    private static void words() {
        WhyRoom x = of("chhhceh b02129 b0139 b1159 b2159 b3169 b6159");
        due(36, "the least of as few", x.words(0), 2);
        due(36, "which", x.asked(), 6);
        x.learn(6, 1);
        due(36, "fewer", x.words(0), 1);
        due(36, "which", x.asked(), 8);
        x.learn(3, 1);
        due(36, "none", x.words(0), 0);
        due(36, "which", x.asked(), 0);
        due(36, "its own, too", x.words(1), 1);
        due(36, "which", x.asked(), 2);
        due(36, "does not stand", x.words(4), NONE);
        due(36, "asked stays", x.asked(), 2);
        due(36, "no claim", x.words(7), BAD);
    }

    private static void agreeing() {
        WhyRoom x = of("cccela b0119 b0129 b1139 b2149 b5139");
        due(37, "agree", x.agree(0), 30);
        due(37, "agree", x.agree(1), 10);
        x.away(2, 1);
        due(37, "one is left", x.agree(0), 11);
        due(37, "taken away", x.agree(2), 4);
        due(37, "no claim", x.agree(6), BAD);
        due(38, "thin", x.thin(0), 0);
        due(38, "by how many", x.asked(), 1);
        x.away(2, 0);
        due(38, "the first of as thin", x.thin(0), 1);
        due(38, "by how many", x.asked(), 1);
        x.away(4, 1);
        due(38, "the thinnest", x.thin(0), 2);
        due(38, "by how many", x.asked(), 0);
        due(38, "an end", x.thin(3), NONE);
        due(38, "a lost", x.thin(4), NONE);
        due(38, "asked stays", x.asked(), 0);
        due(38, "no claim", x.thin(6), BAD);
    }

    private static void falling() {
        WhyRoom x = of("cccee b0139 b1109 b2149 b2119");
        due(39, "without an end", x.without(3), 3);
        due(39, "without a claim", x.without(0), 2);
        due(39, "without one of two", x.without(4), 0);
        due(40, "one", x.falls(1), 1);
        due(40, "the least", x.asked(), 1);
        due(40, "two", x.falls(2), 2);
        due(40, "the least", x.asked(), 17);
        due(40, "an end falls by itself alone", x.falls(3), NONE);
        due(40, "asked stays", x.asked(), 17);
        x.away(3, 1);
        due(39, "taken away", x.without(3), 0);
        due(40, "it does not stand", x.falls(1), 0);
        due(40, "none", x.asked(), 0);
        due(40, "one now", x.falls(2), 1);
        due(40, "which", x.asked(), 16);
        due(39, "no claim", x.without(5), BAD);
        due(40, "no claim", x.falls(5), BAD);
        WhyRoom three = of("ceee b0119 b0129 b0139");
        due(40, "three", three.falls(0), 3);
        due(40, "all ends", three.asked(), 14);
        WhyRoom four = of("ceeee b0119 b0129 b0139 b0149");
        due(40, "not so few", four.falls(0), NONE);
    }

    private static void whose() {
        WhyRoom x = of("aamace b0119 b0129 b1135 b2135 b3159 b4109");
        due(41, "each way, itself, too", x.whose(0), 9);
        due(41, "some way", x.asked(), 15);
        due(41, "a claim that is no act", x.whose(4), 9);
        due(41, "some way", x.asked(), 15);
        due(41, "an end", x.whose(5), 0);
        due(41, "an end", x.asked(), 0);
        x.away(2, 1);
        due(41, "one way left", x.whose(0), 11);
        due(41, "one way left", x.asked(), 11);
        due(41, "does not stand", x.whose(2), 0);
        due(41, "does not stand", x.asked(), 0);
        due(41, "no claim", x.whose(6), BAD);
        WhyRoom y = of("caae b0119 b1139 b1129 b2139");
        due(41, "what could be missing counts not", y.whose(0), 2);
        due(41, "what could be missing counts not", y.asked(), 2);
    }

    private static void tales() {
        WhyRoom none = new WhyRoom();
        due(42, "no row", none.judge(6), BAD);
        due(42, "no claims ahead of nothing", none.judge(0), STATE);
        due(43, "no claims", none.held(0), STATE);
        due(44, "no claims", none.lied(0), STATE);
        WhyRoom x = of(RAIN);
        tell(x, 0, 0, 1, 6, 6, 8, 7, 6);
        due(42, "all could be", x.judge(0), 3);
        due(42, "goes on", x.asked(), 0);
        due(43, "held", x.held(0), 325);
        due(43, "stands by these", x.asked(), 136);
        due(44, "no lie", x.lied(0), 0);
        due(44, "no pair", x.asked(), NONE);
        x.law(1);
        due(42, "the law bars the third", x.judge(0), 2);
        due(42, "each", x.asked(), 3);
        x.law(0);
        tell(x, 0, 0, 0, 1, 2, 3, 4, 3, 4, 3);
        due(42, "the third could not be", x.judge(0), 2);
        due(42, "it was an end", x.asked(), 1);
        due(43, "held", x.held(0), 11);
        due(43, "stands by these", x.asked(), 143);
        due(44, "two lies", x.lied(0), 2);
        due(44, "the third first", x.asked(), 2);
        x.away(1, 1);
        due(42, "not usable", x.judge(0), 0);
        due(42, "goes on, by another", x.asked(), 0);
        due(44, "no lies more", x.lied(0), 2);
        x.held(0);
        due(43, "as far as usable", x.asked(), 140);
        tell(x, 0, 4);
        due(42, "no pairs", x.judge(0), 0);
        due(42, "a loss", x.asked(), 2);
        due(43, "itself", x.held(0), 16);
        due(43, "ends", x.asked(), 136);
        due(44, "none", x.lied(0), 0);
        refusals(x);
    }

    private static void refusals(WhyRoom x) {
        for (int i = 0; i < 3; i++) {
            due(42 + i, "no row", told(x, i, -1), BAD);
            x.tear(2);
            finds(42 + i, "missing", x, told(x, i, 2), 1);
            x.tear(2);
            x.row(2, 0);
            finds(42 + i, "empty", x, told(x, i, 2), 5);
            x.row(2, 2);
            finds(42 + i, "half a pair", x, told(x, i, 2), 5);
            x.row(2, 33);
            x.lay(2, 0, 99);
            finds(42 + i, "more", x, told(x, i, 2), 5);
            x.row(2, 31);
            due(42 + i, "15 pairs", told(x, i, 2) >= 0 ? 1 : 0, 1);
            tell(x, 2, 9);
            finds(42 + i, "no claim", x, told(x, i, 2), 3);
            tell(x, 2, -1);
            finds(42 + i, "no claim", x, told(x, i, 2), 3);
            tell(x, 2, 0, 8, 0);
            finds(42 + i, "no reason", x, told(x, i, 2), 3);
            tell(x, 2, 3, 0, 0, 0, 9);
            finds(42 + i, "no claim behind a pair that could not be", x, told(x, i, 2), 3);
        }
    }

    private static int told(WhyRoom x, int call, int r) {
        return call == 0 ? x.judge(r) : call == 1 ? x.held(r) : x.lied(r);
    }

    private static void fitting() {
        WhyRoom x = of("ccceb02129b0119b1109b1139b2139");
        due(45, "none from itself", x.fits(0, 0, 0), 1);
        due(45, "none to another", x.fits(0, 1, 0), 0);
        due(45, "one", x.fits(0, 1, 1), 2);
        due(45, "two", x.fits(0, 3, 2), 3);
        due(45, "round", x.fits(0, 0, 4), 4);
        due(45, "round and out", x.fits(0, 3, 4), 6);
        x.law(1);
        due(45, "by the law no round", x.fits(0, 0, 2), 0);
        due(45, "by the law", x.fits(0, 3, 4), 0);
        due(45, "by the law", x.fits(1, 3, 3), 1);
        x.law(0);
        x.away(2, 1);
        due(45, "usable ones", x.fits(0, 1, 1), 1);
        due(45, "no claim", x.fits(4, 0, 0), BAD);
        due(45, "no claim", x.fits(0, 4, 0), BAD);
        due(45, "-1", x.fits(0, 0, -1), BAD);
        due(45, "6", x.fits(0, 0, 6), BAD);
    }

    private static void chance(String what, WhyRoom x, int claim, int n, long upper, long lower) {
        due(46, what, x.odds(claim, n), 1);
        due(49, what, x.upper(), upper);
        due(50, what, x.lower(), lower);
    }

    private static void odds() {
        WhyRoom x = of("cclece b031239 b0139 b0159 b1109 b4129 b4139 b4159 b4159");
        chance("a loss", x, 2, 0, 1, 1);
        chance("an end", x, 3, 6, 0, 1);
        chance("not yet", x, 0, 0, 0, 1);
        chance("one of three of three", x, 0, 1, 1, 9);
        chance("by a round", x, 0, 2, 1, 9);
        chance("by a round", x, 0, 3, 10, 81);
        chance("by rounds", x, 0, 6, 91, 729);
        chance("one of four", x, 4, 1, 1, 4);
        due(46, "no claim", x.odds(6, 0), BAD);
        due(46, "-1", x.odds(0, -1), BAD);
        due(46, "7", x.odds(0, 7), BAD);
        due(49, "stays", x.upper(), 1);
        due(50, "stays", x.lower(), 4);
        x.away(0, 1);
        chance("taken away", x, 0, 0, 1, 1);
        WhyRoom y = of("ccle b031239 b0139 b0129 b0138 b130239");
        chance("shares unlike", y, 0, 1, 1, 3);
        chance("shares unlike, on", y, 0, 2, 13, 36);
    }

    private static void nights() {
        WhyRoom x = of(ROUND);
        due(47, "no evening", x.night(1, 1), STATE);
        due(47, "0", x.night(0, 1), BAD);
        due(47, "21", x.night(21, 1), BAD);
        due(47, "seed 0", x.night(1, 0), BAD);
        due(47, "seed too high", x.night(1, MAX), BAD);
        x.begin(0);
        due(47, "the highest seed", x.night(20, MAX - 1), 20);
        due(47, "too many", x.night(20, 1), FULL);
        due(47, "just so many", x.night(19, 1), 19);
        due(47, "one more", x.night(1, 1), FULL);
        x.undo(0);
        x.law(1);
        due(47, "till none may be", x.night(20, 1), 1);
        // By seed 1: 48271, 182605794, 1291394886: modulo 2 are 1, 0, 0; by 64 754, 2853215, 20178045.
        WhyRoom y = of("cccceee b0119 b031239 b2139 b2149 b3149 b3159");
        y.begin(0);
        due(47, "till an end", y.night(5, 1), 3);
        y.asks(0);
        isRow(47, y, 0, 0, 2, 3, 4);
        y.begin(4);
        due(47, "over", y.night(5, 1), 0);
    }

    private static void counts() {
        WhyRoom x = of(RAIN);
        due(51, "claims", x.count(0), 9);
        due(51, "reasons", x.count(1), 8);
        due(51, "ends", x.count(5), 3);
        x.row(0, 1);
        x.row(4, 1);
        x.text(2, 1);
        x.begin(0);
        x.answer(0, 1);
        x.away(8, 1);
        x.away(7, 1);
        x.learn(1, 1);
        x.image(1);
        int[] due = {9, 8, 1, 2, 1, 3, 2, 2, 1};
        for (int what = 0; what < 9; what++) {
            due(51, "count " + what, x.count(what), due[what]);
        }
        due(51, "9", x.count(9), BAD);
        due(51, "-1", x.count(-1), BAD);
    }

    private static void findings() {
        WhyRoom x = of("ce b0119");
        x.at(0, 0);
        x.tear(0);
        x.row(0, 0);
        x.at(0, 0);
        x.mark(0, 1);
        x.mean(0);
        x.row(0, -1);
        x.row(0, 41);
        due(52, "the latest", x.finding(), 5);
        int[] due = {2, 1, 1, 1, 1};
        for (int f = 1; f <= 5; f++) {
            due(53, "finding " + f, x.findings(f), due[f - 1]);
        }
        due(53, "0", x.findings(0), BAD);
        due(53, "6", x.findings(6), BAD);
        due(52, "the latest", x.finding(), 5);
        x.here();
        due(48, "asked is 0 before", x.asked(), 0);
        x.soonest(1);
        due(48, "told", x.asked(), NONE);
        x.claim(0, 9);
        due(48, "refused tells nothing", x.asked(), NONE);
    }

    private static long folded(int... values) {
        long h = 17;
        for (int v : values) {
            h = 31 * h + v;
        }
        return h;
    }

    private static void digests() {
        WhyRoom x = new WhyRoom();
        due(54, "new", x.digest(), folded(0, 0, 0, 0, 0, 0, 0, 0, 0, 0, -1, -1, -1, -1, -1, -1, -1, -1, -1, -1, -1, -1, -1, -1));
        write(x, 1, "ce b0117");
        x.room(1);
        x.text(3, 1);
        x.put(3, 0, 200);
        tell(x, 2, -5, 6);
        x.image(2);
        x.begin(0);
        x.answer(0, 1);
        x.image(0);
        x.law(1);
        x.trust(0, 3);
        x.away(0, 1);
        due(54, "all of it", x.digest(), folded(2, 1, 1, 1, 0, 1, 1, 2, 2, 1, 0, 1, 0, 0, 1, 1, 0, 1, 1, 0, 0, 2, 3, 0, 1, 1, -1, 0,
            -1, -1, 2, -5, 6, -1, -1, -1, -1, 8, 99, 101, 32, 98, 48, 49, 49, 55, -1, 1, -56));
    }
}
