/** Promises 10 to 18 at their edges: each kind of FAULT and its place, ROOMS anew, facts, marks, switches. */
public final class EdgeRoomsTest {
    private static final int NONE = Edges.NONE, NOTHING = Edges.NOTHING, UNLIKE = Edges.UNLIKE;
    private static final Edges edges = new Edges();
    // One CLAIM of each KIND, 0 to 5.
    private static final String KINDS = "celahm";
    // Four CLAIMS with fourteen REASONS.
    private static final String FOURTEEN = "cccc" + "b0111b0122b0133b0119" + "b1101b1121b1131b1101" + "b2101b2111b2131b2101"
            + "b3101b3111";

    public static void main(String[] args) {
        blanks();
        letters();
        manyClaims();
        manyReasons();
        orderOfItems();
        claimOfAReason();
        partsOfAReason();
        figures();
        endTooEarly();
        fault();
        room();
        roomAnew();
        claim();
        reason();
        markOfKinds();
        markAtMost();
        trust();
        away();
        learn();
        law();
        edges.end(10, 18);
    }

    // ---- promise 10

    /** The FAULT of a TEXT, and what room() makes of it. */
    private static void faultOf(String what, String text, int want) {
        WhyRoom x = Edges.rich();
        Edges.write(x, 3, text);
        edges.is(10, what + " '" + text + "'", x.fault(3), want);
        int claims = 0;
        for (int i = 0; i < text.length(); i++) {
            claims += "celahm".indexOf(text.charAt(i)) >= 0 ? 1 : 0;
        }
        edges.is(11, what + " '" + text + "'", x.room(3), want == NONE ? claims : Edges.STATE);
    }

    private static String times(String text, int n) {
        return text.repeat(n);
    }

    private static void blanks() {
        faultOf("empty", "", 0);
        faultOf("one blank alone", " ", 1);
        faultOf("eighty blanks alone", times(" ", 80), 80);
        faultOf("blanks ahead", times(" ", 79) + "c", NONE);
        faultOf("blanks behind", "c" + times(" ", 79), NONE);
        faultOf("blanks between", "c" + times(" ", 78) + "c", NONE);
        faultOf("blanks between reasons", "  c   e  b0119    b0118  ", NONE);
        faultOf("no blanks", "ceb0119b0118", NONE);
        faultOf("a blank, then the claim", "ce b 0119", 4);
        faultOf("a blank, then how many", "ce b0 119", 5);
        faultOf("a blank, then the part", "ce b01 19", 6);
        faultOf("a blank, then the second part", "cee b021 29", 8);
        faultOf("a blank, then how sure", "ce b011 9", 7);
        for (int sign : new int[] {0, 9, 10, 13, 31, 33, 160}) {
            faultOf("no blank: " + sign, "c" + (char) sign + "c", 1);
        }
    }

    private static void letters() {
        for (int sign = 0; sign < 256; sign++) {
            char letter = (char) sign;
            boolean fits = "celahm ".indexOf(letter) >= 0;
            faultOf("letter " + sign, "c" + letter, fits ? NONE : letter == 'b' ? 2 : 1);
        }
        faultOf("the first", "C", 0);
        faultOf("behind a reason", "ceb0119x", 7);
        faultOf("a figure behind a reason", "ceb01199", 7);
    }

    private static void manyClaims() {
        faultOf("one claim", "e", NONE);
        faultOf("nine", times("h", 9), NONE);
        faultOf("ten", times("h", 10), NONE);
        faultOf("an eleventh", times("h", 11), 10);
        faultOf("an eleventh, and more", times("h", 12), 10);
        faultOf("an eleventh behind blanks", "  " + times("h", 10) + "  e", 14);
        faultOf("ten, then a reason", times("c", 10) + "b9108", NONE);
        faultOf("as much as can be", Edges.MOST, NONE);
    }

    private static void manyReasons() {
        faultOf("none", "c", NONE);
        faultOf("fourteen", FOURTEEN, NONE);
        faultOf("a fifteenth", FOURTEEN + "b3121", 74);
        faultOf("a fifteenth behind a blank", FOURTEEN + " b3121", 75);
        faultOf("a fifteenth, cut", FOURTEEN + "b", 74);
        faultOf("a fifteenth for one with four", FOURTEEN + "b0111", 74);
        faultOf("behind fourteen an item that is none", FOURTEEN + "x", 74);
        faultOf("behind fourteen a claim", FOURTEEN + "c", 74);
        faultOf("three for one", "cc" + times("b0119", 3), NONE);
        faultOf("four for one", "cc" + times("b0119", 4), NONE);
        faultOf("a fifth for one", "cc" + times("b0119", 5), 23);
        faultOf("a fifth for one, cut", "cc" + times("b0119", 4) + "b0", 23);
        faultOf("a fifth for another", "cc" + times("b0119", 4) + "b1109", NONE);
    }

    private static void orderOfItems() {
        faultOf("a claim behind a reason", "ceb0119c", 7);
        faultOf("an end behind a reason and blanks", "ceb0119  e", 9);
        faultOf("a reason ahead of all claims", "b0119ce", 0);
        faultOf("a reason ahead of all claims, behind blanks", "  b0119ce", 2);
        faultOf("a reason ahead of all claims, cut", " b", 1);
    }

    private static void claimOfAReason() {
        faultOf("the last claim", "eec b2109", NONE);
        faultOf("the one behind the last", "eec b3109", 5);
        faultOf("the tenth", times("c", 10) + " b9109", NONE);
        faultOf("the tenth of nine", times("c", 9) + " b9109", 11);
        faultOf("a claim", "ce b0119", NONE);
        faultOf("an act", "ae b0119", NONE);
        faultOf("a hard one", "he b0119", NONE);
        faultOf("a machine", "me b0119", NONE);
        faultOf("an end", "ec b0119", 4);
        faultOf("a lost", "lc b0119", 4);
    }

    private static void partsOfAReason() {
        faultOf("no parts", "cccc b09", 7);
        faultOf("no parts, 0", "cccc b00", 7);
        faultOf("one part", "cccc b0119", NONE);
        faultOf("two parts", "cccc b02129", NONE);
        faultOf("three parts", "cccc b031239", NONE);
        faultOf("four parts", "ccccc b0412349", 8);
        faultOf("a part that there is not", "ccc b0139", 7);
        faultOf("a second part that there is not", "ccc b02139", 8);
        faultOf("a third part that there is not", "ccc b032139", 9);
        faultOf("itself", "cccc b1119", 8);
        faultOf("itself second", "cccc b12019", 9);
        faultOf("itself third", "cccc b130219", 10);
        faultOf("told already", "cccc b02119", 9);
        faultOf("third as first", "cccc b031219", 10);
        faultOf("third as second", "cccc b031229", 10);
        faultOf("told by another reason", "cccc b0119b0119", NONE);
        faultOf("more parts than other claims", "cc b0219", 7);
        faultOf("a part of the only claim", "c b0109", 5);
        faultOf("ends and losts as parts", "celh b031239", NONE);
        faultOf("not sure", "ce b0110", 7);
        faultOf("as sure as can be", "ce b0119", NONE);
        faultOf("hardly sure", "ce b0111", NONE);
    }

    /** Each byte in each place of a REASON: what of it can go on, and where not. */
    private static void figures() {
        String good = "cc b0119";
        for (int place = 4; place <= 7; place++) {
            for (int sign = 0; sign < 256; sign++) {
                char byHand = (char) sign;
                String text = good.substring(0, place) + byHand + good.substring(place + 1);
                faultOf("byte " + sign + " at " + place, text, faultWith(place, byHand));
            }
        }
    }

    private static int faultWith(int place, char sign) {
        switch (place) {
            case 4:
                return sign == '0' ? NONE : sign == '1' ? 6 : 4;
            case 5:
                // Of two or three PARTS the second would be 9.
                return sign == '1' ? NONE : sign == '2' || sign == '3' ? 7 : 5;
            case 6:
                return sign == '1' ? NONE : 6;
            default:
                return sign >= '1' && sign <= '9' ? NONE : 7;
        }
    }

    private static void endTooEarly() {
        String whole = "cccc b031239";
        for (int size = 6; size < whole.length(); size++) {
            String cut = whole.substring(0, size);
            faultOf("cut", cut, size);
            faultOf("cut, and a blank", cut + " ", size);
        }
        faultOf("whole", whole, NONE);
    }

    private static void fault() {
        edges.range(10, "text", Edges::rich, (x, t) -> x.fault(t), 0, 3);
        edges.finds(10, "missing", Edges::rich, x -> x.fault(3), NOTHING);
        edges.answers(10, "of an empty text", Edges::rich, x -> x.fault(2), 0);
        edges.answers(10, "of text 1", Edges::rich, x -> x.fault(1), 4);
        edges.onlyTells(10, "a fault", Edges::rich, x -> x.fault(1));
        edges.onlyTells(10, "no fault", Edges::rich, x -> x.fault(0));
    }

    // ---- promise 11

    private static void room() {
        edges.range(11, "text", Edges::rich, (x, t) -> x.room(t), 0, 3);
        edges.finds(11, "missing", Edges::rich, x -> x.room(3), NOTHING);
        edges.state(11, "a fault", Edges::rich, x -> x.room(1));
        edges.state(11, "empty", Edges::rich, x -> x.room(2));
        edges.state(11, "a fault, without claims", () -> texted("ce b"), x -> x.room(0));
        edges.finds(11, "missing, without claims", () -> texted("ce"), x -> x.room(1), NOTHING);
        edges.answers(11, "of one claim", () -> texted("l"), x -> x.room(0), 1);
        edges.answers(11, "of ten", () -> texted(Edges.MOST), x -> x.room(0), 10);
    }

    private static WhyRoom texted(String text) {
        WhyRoom x = new WhyRoom();
        Edges.write(x, 0, text);
        return x;
    }

    private static void roomAnew() {
        WhyRoom x = Edges.rich();
        x.image(1);
        edges.is(11, "three kept", x.count(8), 3);
        int asked = x.asked();
        long upper = x.upper();
        long lower = x.lower();
        edges.is(11, "the same room", x.room(0), 9);
        edges.is(11, "no evening", x.here(), Edges.STATE);
        edges.is(11, "no answers", x.count(2), 0);
        edges.is(11, "nothing taken away", x.count(3), 0);
        edges.is(11, "no word known", x.count(4), 0);
        edges.is(11, "no word known", x.mark(1, 4), 0);
        edges.is(11, "no kept rooms", x.count(8), 0);
        for (int k = 0; k <= 2; k++) {
            edges.is(11, "no kept room " + k, x.on(k), Edges.FINDING);
        }
        edges.is(11, "asked() stays", x.asked(), asked);
        edges.is(11, "upper() stays", x.upper(), upper);
        edges.is(11, "lower() stays", x.lower(), lower);
        edges.is(11, "rows stay", x.count(6), 3);
        edges.is(11, "texts stay", x.count(7), 3);
        x.reason(0, 2);
        edges.is(11, "as sure as the text says", x.asked(), 5);
        edges.is(11, "the law is off", x.law(0), 0);
        WhyRoom y = Edges.rich();
        Edges.write(y, 3, "e");
        edges.is(11, "a smaller room", y.room(3), 1);
        edges.is(11, "no claim 1", y.claim(1, 0), Edges.BAD);
        edges.is(11, "no reason 0", y.reason(0, 0), Edges.BAD);
        edges.is(11, "all stand", y.stands(), 1);
        WhyRoom z = new WhyRoom();
        z.law(1);
        Edges.write(z, 0, "ce");
        z.room(0);
        edges.is(11, "the law is off", z.law(1), 0);
    }

    // ---- promises 12, 13

    private static void claim() {
        edges.range(12, "claim", Edges::most, (x, c) -> x.claim(c, 0), 0, 9);
        edges.range(12, "claim of one", () -> Edges.of("e"), (x, c) -> x.claim(c, 0), 0, 0);
        edges.range(12, "what", Edges::rich, (x, what) -> x.claim(1, what), 0, 4);
        for (int kind = 0; kind <= 5; kind++) {
            int c = kind;
            edges.tells(12, "kind", () -> Edges.of(KINDS), x -> x.claim(c, 0), 1, kind);
        }
        edges.tells(12, "no reasons for it", Edges::most, x -> x.claim(3, 1), 1, 0);
        edges.tells(12, "four reasons for it", Edges::most, x -> x.claim(0, 1), 1, 15);
        edges.tells(12, "the last reasons for it", Edges::most, x -> x.claim(8, 1), 1, 1 << 12 | 1 << 13);
        edges.tells(12, "part of none", Edges::most, x -> x.claim(1, 2), 1, 0);
        edges.tells(12, "part of the last", Edges::most, x -> x.claim(0, 2), 1, 1 << 13);
        edges.tells(12, "part of many", Edges::most, x -> x.claim(9, 2), 1, 0x1fff & ~(1 << 5 | 1 << 6 | 1 << 11));
        edges.tells(12, "stands", Edges::most, x -> x.claim(9, 3), 1, 1);
        edges.tells(12, "stands not", Edges::most, x -> x.claim(7, 3), 1, 0);
        edges.tells(12, "a lost stands not", () -> Edges.of(KINDS), x -> x.claim(2, 3), 1, 0);
        edges.tells(12, "taken away", Edges::rich, x -> x.claim(7, 4), 1, 1);
        edges.tells(12, "taken away stands not", Edges::rich, x -> x.claim(7, 3), 1, 0);
        edges.tells(12, "not taken away", Edges::rich, x -> x.claim(8, 4), 1, 0);
        edges.tells(12, "a reason that is not usable", Edges::rich, x -> x.claim(5, 1), 1, 32);
        edges.tells(12, "part of what is not usable", Edges::rich, x -> x.claim(7, 2), 1, 32);
    }

    private static void reason() {
        edges.range(13, "reason", Edges::most, (x, k) -> x.reason(k, 0), 0, 13);
        edges.range(13, "reason of one", () -> Edges.of("ceb0119"), (x, k) -> x.reason(k, 0), 0, 0);
        edges.bad(13, "reason of none", () -> Edges.of("ce"), x -> x.reason(0, 0));
        edges.range(13, "what", Edges::rich, (x, what) -> x.reason(1, what), 0, 2);
        edges.tells(13, "the last one's claim", Edges::most, x -> x.reason(13, 0), 1, 8);
        edges.tells(13, "the last one's part", Edges::most, x -> x.reason(13, 1), 1, 1);
        edges.tells(13, "the first one's part", Edges::most, x -> x.reason(0, 1), 1, 1 << 9);
        edges.tells(13, "hardly sure", Edges::most, x -> x.reason(0, 2), 1, 1);
        edges.tells(13, "as sure as can be", Edges::most, x -> x.reason(8, 2), 1, 9);
        edges.tells(13, "three parts", () -> Edges.of("cccceb031249"), x -> x.reason(0, 1), 1, 22);
    }

    // ---- promise 14

    private static void markOfKinds() {
        edges.range(14, "claim", () -> Edges.of("mmmmmmmmmm"), (x, c) -> x.mark(c, 5), 0, 9);
        edges.range(14, "kind", Edges::rich, (x, kind) -> x.mark(4, kind), 1, 5);
        for (int c = 0; c <= 5; c++) {
            for (int kind = 1; kind <= 5; kind++) {
                int claim = c;
                int of = kind;
                boolean is = c == kind || c == 2 && kind == 1 || c == 5 && kind == 3;
                if (is) {
                    int want = kind == 2 ? 5 : kind == 5 ? 2 : 0;
                    edges.answers(14, c + " as " + kind, () -> Edges.of(KINDS), x -> x.mark(claim, of), want);
                } else {
                    edges.finds(14, c + " as " + kind, () -> Edges.of(KINDS), x -> x.mark(claim, of), UNLIKE);
                }
            }
        }
        edges.finds(14, "another kind", Edges::rich, x -> x.mark(0, 4), UNLIKE);
        edges.bad(14, "BAD ahead of UNLIKE", Edges::rich, x -> x.mark(9, 1));
        edges.bad(14, "BAD ahead of UNLIKE", Edges::rich, x -> x.mark(0, 6));
        edges.onlyTells(14, "a mark", Edges::rich, x -> x.mark(1, 4));
    }

    private static void markAtMost() {
        String all = "ccccel" + "b0149b0149b0149b0149b1149b1149b1149b1149b2149b2149b2149b2149b3149b3149";
        edges.answers(14, "an end, part of all", () -> Edges.of(all), x -> x.mark(4, 1), 14);
        edges.answers(14, "a lost, part of none", () -> Edges.of(all), x -> x.mark(5, 1), 0);
        edges.answers(14, "a lost alone at a loss", () -> Edges.of(all), x -> x.mark(5, 2), 1);
        edges.answers(14, "all at a loss", () -> Edges.of("lccccccccc"), x -> x.mark(0, 2), 10);
        edges.answers(14, "at a loss, but taken away", () -> gone("lccccccccc", 9), x -> x.mark(0, 2), 9);
        edges.answers(14, "itself taken away", () -> gone("lccccccccc", 0), x -> x.mark(0, 2), 9);
        edges.answers(14, "an end is at no loss", () -> gone("lecb2119", 1), x -> x.mark(0, 2), 2);
        edges.answers(14, "parts not usable count, too", () -> gone("ceb0119", 0), x -> x.mark(1, 1), 1);
        String eight = "aecccccccc" + "b0119b2109b3109b4109b5109b6109b7109b8109b9109";
        edges.answers(14, "all but itself and the end", () -> Edges.of(eight), x -> x.mark(0, 3), 8);
        edges.answers(14, "taken away, none more falls", () -> gone(eight, 0), x -> x.mark(0, 3), 0);
        edges.answers(14, "an act that stands not", () -> Edges.of("aceb1129"), x -> x.mark(0, 3), 0);
        edges.answers(14, "ten machines", () -> Edges.of("mmmmmmmmmm"), x -> x.mark(9, 5), 10);
        edges.answers(14, "a machine alone", () -> Edges.of("mcehl"), x -> x.mark(0, 5), 1);
        edges.answers(14, "acts taken away count, too", () -> gone("ma", 1), x -> x.mark(0, 5), 2);
        edges.answers(14, "a word not known", () -> Edges.of("h"), x -> x.mark(0, 4), 0);
        edges.answers(14, "a word known", Edges::rich, x -> x.mark(1, 4), 1);
    }

    private static WhyRoom gone(String text, int claim) {
        WhyRoom x = Edges.of(text);
        x.away(claim, 1);
        return x;
    }

    // ---- promises 15 to 18

    private static void trust() {
        edges.range(15, "reason", Edges::most, (x, k) -> x.trust(k, 5), 0, 13);
        edges.bad(15, "reason of none", () -> Edges.of("ce"), x -> x.trust(0, 5));
        edges.range(15, "how sure", Edges::rich, (x, v) -> x.trust(0, v), 1, 9);
        edges.answers(15, "what it was", Edges::most, x -> x.trust(13, 9), 5);
        edges.answers(15, "what it was made", Edges::rich, x -> x.trust(0, 9), 2);
        edges.tells(15, "one alone", Edges::most, x -> x.trust(12, 9) + x.reason(13, 2), 5, 5);
        edges.tells(15, "that one", Edges::most, x -> x.trust(12, 9) + x.reason(12, 2), 5, 9);
    }

    private static void away() {
        edges.range(16, "claim", Edges::most, (x, c) -> x.away(c, 1), 0, 9);
        edges.range(16, "is", Edges::rich, (x, is) -> x.away(0, is), 0, 1);
        edges.answers(16, "it was not", Edges::rich, x -> x.away(0, 1), 0);
        edges.answers(16, "it was", Edges::rich, x -> x.away(7, 0), 1);
        edges.onlyTells(16, "once more", Edges::rich, x -> x.away(7, 1));
        edges.onlyTells(16, "not once more", Edges::rich, x -> x.away(8, 0));
        WhyRoom x = Edges.most();
        for (int c = 0; c <= 9; c++) {
            edges.is(16, "one more", x.away(c, 1), 0);
            edges.is(16, "taken away", x.count(3), c + 1);
        }
        edges.is(16, "none stands", x.stands(), 0);
        edges.is(16, "no others", x.asked(), 0);
        for (int c = 0; c <= 9; c++) {
            edges.is(16, "one back", x.away(c, 0), 1);
        }
        edges.is(16, "all is back", x.count(3), 0);
    }

    private static void learn() {
        edges.range(17, "claim", () -> Edges.of("hhhhhhhhhh"), (x, c) -> x.learn(c, 1), 0, 9);
        edges.range(17, "is", Edges::rich, (x, is) -> x.learn(1, is), 0, 1);
        edges.answers(17, "it was known", Edges::rich, x -> x.learn(1, 0), 1);
        edges.onlyTells(17, "once more", Edges::rich, x -> x.learn(1, 1));
        for (int c : new int[] {0, 1, 2, 3, 5}) {
            edges.finds(17, "kind " + c, () -> Edges.of(KINDS), x -> x.learn(c, 1), UNLIKE);
            edges.finds(17, "kind " + c, () -> Edges.of(KINDS), x -> x.learn(c, 0), UNLIKE);
        }
        edges.finds(17, "no hard one", Edges::rich, x -> x.learn(0, 1), UNLIKE);
        edges.answers(17, "a hard one", () -> Edges.of(KINDS), x -> x.learn(4, 1), 0);
        edges.bad(17, "BAD ahead of UNLIKE", Edges::rich, x -> x.learn(0, 2));
        edges.bad(17, "BAD ahead of UNLIKE", Edges::rich, x -> x.learn(9, 1));
        edges.answers(17, "taken away, too", () -> gone("h", 0), x -> x.learn(0, 1), 0);
        WhyRoom x = Edges.of("hhhhhhhhhh");
        for (int c = 0; c <= 9; c++) {
            edges.is(17, "one more", x.learn(c, 1), 0);
            edges.is(17, "words", x.count(4), c + 1);
        }
    }

    private static void law() {
        edges.range(18, "is", Edges::rich, (x, is) -> x.law(is), 0, 1);
        edges.answers(18, "it was on", Edges::rich, x -> x.law(0), 1);
        edges.answers(18, "it was off", Edges::most, x -> x.law(0), 0);
        edges.onlyTells(18, "once more", Edges::rich, x -> x.law(1));
        edges.answers(18, "off, then on", Edges::rich, x -> x.law(0) + 10 * x.law(1) + 100 * x.law(1), 101);
    }
}
