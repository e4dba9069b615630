import java.util.LinkedHashMap;
import java.util.Map;

/** What the tests of edges share: objects made ready, calls that are refused, and what then must stay. */
final class Edges {
    static final int BAD = -1, FULL = -2, FINDING = -3, STATE = -4, NONE = -9;
    static final int NOTHING = 1, BEYOND = 2, UNLIKE = 3, NOUGHT = 4, SIZE = 5;
    static final int MAX = Integer.MAX_VALUE, MIN = Integer.MIN_VALUE;

    // 0 by 1, or by 2 and 6; 1 by 3, or by 2 and 5; 2 by 3; 5 by 7; 6 by 8; 8 by 6: a round of 6 and 8.
    static final String RAIN = "chaelmcec b0115 b02264 b1137 b12253 b2139 b5178 b6188 b8162";
    static final String ROUND = "ccb0119b1109";
    // Ten CLAIMS, fourteen REASONS, eighty bytes: as much as can be.
    static final String MOST = "cccccccche" + "b0191b0192b0193b0194" + "b1195b1186b1177b1198" + "b2199b2191b2192b2133"
            + "b8194b8105";

    /** Makes an object as it is ahead of a call. */
    interface Ready {
        WhyRoom make();
    }

    interface Call {
        long on(WhyRoom x);
    }

    interface Numbered {
        long on(WhyRoom x, int number);
    }

    private int wrong;
    private final int[] looked = new int[55];

    void is(int promise, String what, long got, long want) {
        looked[promise]++;
        if (got != want) {
            wrong++;
            System.out.println("promise " + promise + ": " + what + ": " + got + ", due is " + want);
        }
    }

    /** A call that is not refused, on an object of its own. */
    void answers(int promise, String what, Ready ready, Call call, long want) {
        is(promise, what, call.on(ready.make()), want);
    }

    /** As answers(), with what asked() tells behind it. */
    void tells(int promise, String what, Ready ready, Call call, long want, int asked) {
        WhyRoom x = ready.make();
        is(promise, what, call.on(x), want);
        is(promise, what + ", asked()", x.asked(), asked);
    }

    void bad(int promise, String what, Ready ready, Call call) {
        refused(promise, what, ready, call, BAD, 0);
    }

    void state(int promise, String what, Ready ready, Call call) {
        refused(promise, what, ready, call, STATE, 0);
    }

    void full(int promise, String what, Ready ready, Call call) {
        refused(promise, what, ready, call, FULL, 0);
    }

    void finds(int promise, String what, Ready ready, Call call, int finding) {
        refused(promise, what, ready, call, FINDING, finding);
    }

    /** Numbers from the least to the most one are taken; one below, one above, the utmost ones are BAD. */
    void range(int promise, String what, Ready ready, Numbered call, int least, int most) {
        for (int no : new int[] {least - 1, most + 1, MIN, MAX}) {
            bad(promise, what + " " + no, ready, x -> call.on(x, no));
        }
        for (int yes : new int[] {least, most}) {
            is(promise, what + " " + yes + " is BAD", call.on(ready.make(), yes) == BAD ? 1 : 0, 0);
        }
    }

    /** Nothing but finding() and findings() differs from an object of which it was not asked. */
    private void refused(int promise, String what, Ready ready, Call call, int answer, int finding) {
        WhyRoom x = ready.make();
        WhyRoom twin = ready.make();
        is(promise, what, call.on(x), answer);
        is(promise, what + ", finding()", x.finding(), finding == 0 ? twin.finding() : finding);
        for (int f = 1; f <= 5; f++) {
            is(promise, what + ", findings " + f, x.findings(f), twin.findings(f) + (f == finding ? 1 : 0));
        }
        alike(promise, what, x, twin);
    }

    /** A call that is not refused, but only tells: what stays as after a refused one, and finding() too. */
    void onlyTells(int promise, String what, Ready ready, Call call) {
        WhyRoom x = ready.make();
        WhyRoom twin = ready.make();
        call.on(x);
        is(promise, what + ", finding()", x.finding(), twin.finding());
        for (int f = 1; f <= 5; f++) {
            is(promise, what + ", findings " + f, x.findings(f), twin.findings(f));
        }
        alike(promise, what, x, twin);
    }

    private void alike(int promise, String what, WhyRoom x, WhyRoom twin) {
        Map<String, Long> due = allOf(twin);
        Map<String, Long> got = allOf(x);
        for (String name : due.keySet()) {
            is(promise, "behind " + what + ", " + name, got.getOrDefault(name, Long.MIN_VALUE), due.get(name));
        }
        is(promise, "behind " + what + ", what there is to tell", got.size(), due.size());
    }

    /** All that calls can tell of an object; it is of no use behind this. */
    private static Map<String, Long> allOf(WhyRoom x) {
        Map<String, Long> all = new LinkedHashMap<>();
        all.put("asked()", (long) x.asked());
        all.put("upper()", x.upper());
        all.put("lower()", x.lower());
        ofRoom(all, x, "");
        for (int k = 0; k < 3; k++) {
            if (x.on(k) >= 0) {
                ofRoom(all, x, "on(" + k + "), ");
            }
        }
        return all;
    }

    private static void ofRoom(Map<String, Long> all, WhyRoom x, String when) {
        all.put(when + "digest()", x.digest());
        for (int what = 0; what <= 8; what++) {
            all.put(when + "count(" + what + ")", (long) x.count(what));
        }
        all.put(when + "here()", (long) x.here());
        all.put(when + "may()", (long) x.may());
        for (int c = 0; c < x.count(0); c++) {
            all.put(when + "mark(" + c + ", 4)", (long) x.mark(c, 4));
        }
    }

    /** Each promise from the first to the last one must have been looked at. */
    void end(int first, int last) {
        int answers = 0;
        for (int promise = first; promise <= last; promise++) {
            answers += looked[promise];
            if (looked[promise] == 0) {
                wrong++;
                System.out.println("promise " + promise + " was not looked at");
            }
        }
        System.out.println(wrong == 0 ? answers + " answers at edges are as due" : wrong + " answers are not as due");
        if (wrong != 0) {
            System.exit(1);
        }
    }

    void isRow(int promise, String what, WhyRoom x, int r, int... numbers) {
        is(promise, what + ": behind the row", x.at(r, numbers.length), FINDING);
        is(promise, what + ": behind the row", x.finding(), BEYOND);
        for (int i = 0; i < numbers.length; i++) {
            is(promise, what + ": place " + i + " is there", x.at(r, i), 1);
            is(promise, what + ": place " + i, x.asked(), numbers[i]);
        }
    }

    static void write(WhyRoom x, int t, String text) {
        x.text(t, text.length());
        for (int i = 0; i < text.length(); i++) {
            x.put(t, i, text.charAt(i));
        }
    }

    static void tell(WhyRoom x, int r, int... numbers) {
        x.row(r, numbers.length);
        for (int i = 0; i < numbers.length; i++) {
            x.lay(r, i, numbers[i]);
        }
    }

    /** A ROOM by a TEXT, nothing else. */
    static WhyRoom of(String text) {
        WhyRoom x = new WhyRoom();
        write(x, 0, text);
        if (x.room(0) <= 0) {
            System.out.println("no room: " + text);
            System.exit(1);
        }
        return x;
    }

    static WhyRoom most() {
        return of(MOST);
    }

    /** A bit of everything, so that whatever a refused call would change can be seen. */
    static WhyRoom rich() {
        WhyRoom x = of(RAIN);
        write(x, 1, "ce bb");
        x.text(2, 0);
        x.row(0, 40);
        x.lay(0, 0, 11);
        x.lay(0, 39, -7);
        x.row(1, 0);
        tell(x, 2, 0, 1, 6, 6, 8);
        x.image(0);
        x.begin(0);
        x.answer(1, 6);
        x.learn(1, 1);
        x.trust(0, 2);
        x.law(1);
        x.away(7, 1);
        x.image(2);
        x.answer(6, 8);
        x.odds(0, 6);
        x.mean(1);
        x.at(5, 0);
        x.row(5, -3);
        x.claim(1, 1);
        return x;
    }

    /** An EVENING on a round, so many ANSWERS long. */
    static WhyRoom after(String text, int answers) {
        WhyRoom x = of(text);
        x.begin(0);
        for (int i = 0; i < answers; i++) {
            x.answer(i % 2, (i + 1) % 2);
        }
        return x;
    }
}
