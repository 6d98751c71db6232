import java.util.ArrayDeque;
import java.util.ArrayList;
import java.util.Deque;
import java.util.List;
import java.util.Random;

/** Promises 32 to 36: acts; by hand, and at random beside a reading and doing by Java's own try and finally. */
public final class ActsTest {
    private static RaceHouse x;

    public static void main(String[] args) {
        feeds();
        wrongPlaces();
        steps();
        chips();
        holds();
        failures();
        pushedAside();
        spent();
        deep();
        outcomes();
        undone();
        atRandom();
        Due.end();
    }

    private static void act(String plan, int want) {
        Due.tape(x, plan);
        Due.due("P33 act of " + plan, x.act(), want);
        Due.due("P33 the tape is empty", x.told(5), 0);
    }

    private static void outcome(String plan, int... want) {
        for (int i = 0; i < want.length; i++) Due.due("P34 outcome(" + i + ") of " + plan, x.outcome(i), want[i]);
    }

    private static void feeds() {
        x = new RaceHouse();
        Due.due("P32 n 0", x.feed(1, 0), Due.OUTSIDE);
        Due.due("P32 n 9", x.feed(1, 9), Due.OUTSIDE);
        Due.due("P32 n -1", x.feed(1, -1), Due.OUTSIDE);
        for (int i = 1; i <= 49; i++) Due.due("P32 feed", x.feed(0x2020202020202020L, 8), 8 * i);
        Due.due("P32 seven more", x.feed(0x20202020202020L, 7), 399);
        Due.due("P32 two do not fit", x.feed(0x2020, 2), Due.FULL);
        Due.due("P68 unchanged", x.told(5), 399);
        Due.due("P32 the lowest byte", x.feed(0x414120, 1), 400);
        Due.due("P32 full", x.feed(0x20, 1), Due.FULL);
        Due.due("P32 full, outside", x.feed(0x20, 9), Due.OUTSIDE);
        Due.due("P33 blanks alone", x.act(), 0);
        Due.due("P32 empty again", x.feed(-1, 8), 8);
        Due.due("P33 wrong at 0", x.act(), -1000);
        x.feed(0x7730313233343536L, 4);
        Due.due("P32 the highest of the lowest first", x.act(), -1000);
        x.feed(0x0077313932L, 4);
        Due.due("P32 in order", x.act(), 0);
        Due.due("P35 counter", x.counter(1), 92);
    }

    private static void wrong(String plan, int place) {
        int steps = x.outcome(2);
        act(plan, -1000 - place);
        Due.due("P34 no act was done", x.outcome(2), steps);
    }

    private static void wrongPlaces() {
        x = new RaceHouse();
        act("l1 l2 l3", 0);
        Object[][] plans = {{"l", 1}, {"l ", 2}, {"l8", 1}, {"l 9", 2}, {"q", 0}, {" \nq", 2}, {"w1", 2}, {"w1x", 2},
            {"w1-", 3}, {"w1- 5", 3}, {"w1--5", 3}, {"w112345", 6}, {"w1 1 2", 5}, {"w1-12345", 7}, {"a123", 3}, {"a-1", 1},
            {"a", 1}, {"a 5 6", 4}, {"d1", 2}, {"d18", 2}, {"i81", 1}, {"p", 1}, {"x8", 1}, {"h4{}", 1}, {"h1", 2}, {"h1l1", 2},
            {"h1{", 3}, {"h1{l1", 5}, {"h1{l1}}", 6}, {"}", 0}, {"{", 0}, {"v4", 1}, {"t", 1}, {"t{", 2}, {"t{}c", 4},
            {"t{}c8{}", 4}, {"t{}c1", 5}, {"t{}f", 4}, {"t{}f{", 5}, {"t{}f{}f{}", 6}, {"t{}f{}c1{}", 6}, {"c1{}", 0},
            {"f{}", 0}, {"t{}l1c1{}", 5}, {"t{}l1f{}", 5}, {"h1{}c1{}", 4}, {"r1{}f{}", 4}, {"r8{}", 1}, {"r{}", 1}, {"t{f{}}", 2},
            {"t{c1{}}", 2}, {"t{}c0{f{}}", 6}, {"\tl1", 0}, {"l1\r", 2}, {"l1 \u0080", 3}, {"l-1", 1}, {"l1 2", 3}, {"t{}{}", 3}};
        for (Object[] p : plans) wrong((String) p[0], (Integer) p[1]);
        act(" l\n1 w 2\n-12 t { } c 0 { } f { } a 7 \n", 107);
        Due.due("P35 blanks between", x.counter(2), -12);
        act("w3 0012w3-0002w3 1234", 0);
        Due.due("P35 four digits", x.counter(3), 1244);
        act("t{}c1{}c2{}c1{}f{}t{}f{}t{}", 0);
        outcome("three t", 0, 0, 3);
    }

    private static void steps() {
        x = new RaceHouse();
        act("w0 9999 w1-9999 w2 5 d3 2 p3 p0 i4 5 a 0", 100);
        long[] want = {9999, -9999, 5, 12, 12, 0, 0, 0};
        for (int i = 0; i < 8; i++) Due.due("P35 counter " + i, x.counter(i), want[i]);
        Due.due("P36 slip 0", x.slip(0), 12);
        Due.due("P36 slip 1", x.slip(1), 9999);
        Due.due("P36 slip 2", x.slip(2), Due.LOST);
        Due.due("P36 slip -1", x.slip(-1), Due.LOST);
        Due.due("P35 counter 8", x.counter(8), Due.LOST);
        Due.due("P35 counter -1", x.counter(-1), Due.LOST);
        Due.due("P69 no fault of these", x.fault(), 0);
        outcome("steps", 0, 0, 8, 0, 0, 0, 0, 0);
        act("a99", 199);
        act("a07 w0 1", 107);
        Due.due("P35 nothing behind an answer", x.counter(0), 9999);
        act("w5 -1 i6 5", -13);
        act("w5 2 i6 5", -13);
        act("w5 1 i6 5", 0);
        Due.due("P35 slip 1 there", x.counter(6), 9999);
        act("d7 7", -16);
        act("w7 -7 d7 7", 0);
        Due.due("P35 cut toward 0", x.counter(7), -8);
        x = new RaceHouse();
        act("w0 7 r6{r5{p0}} r5{r5{p0}} r5{p0}", 0);
        Due.due("P68 sixty slips", x.told(6), 60);
        act("p0", -13);
        Due.due("P68 still sixty", x.told(6), 60);
        Due.due("P69 not of an act", x.fault(), 0);
        act("w1 59 i2 1", 0);
        Due.due("P35 the last slip", x.counter(2), 7);
        Due.due("P36 the last slip", x.slip(59), 7);
        Due.due("P36 beyond", x.slip(60), Due.LOST);
    }

    private static void chips() {
        x = new RaceHouse();
        act("l1l2l1l3g1", 0);
        outcome("its latest lending", 0, 0, 5, 3, 0, 0, 0, 4 * 64 + 3 * 8 + 2);
        act("l1l2l1l3g1g1", 0);
        outcome("both", 0, 0, 6, 2, 0, 0, 0, 4 * 8 + 3);
        act("g1", -17);
        act("l1g1g1", -17);
        outcome("once too often", 7, 0, 3, 0, 0, 1, 0, 0);
        act("l7x2", -12);
        outcome("given back though it failed", 2, 0, 2, 1, 0, 1, 0, 8);
        act("l0a3", 103);
        outcome("given back behind an answer", 0, 0, 2, 1, 0, 0, 0, 1);
        act("l1l2l3l4l5l6l7l0l1l2l3l4", 0);
        int all = 0;
        for (int chip : new int[] {4, 3, 2, 1, 0, 7, 6, 5, 4, 3, 2, 1}) all = 8 * all + chip + 1;
        outcome("wraps", 0, 0, 12, 12, 0, 0, 0, all);
    }

    private static void holds() {
        x = new RaceHouse();
        act("h0{h1{h0{h0{v0v1}}}h1{}}", 0);
        outcome("three of one", 0, 0, 7, 0, 3, 0, 2, 0);
        act("v1", -17);
        act("h1{}v1", -17);
        act("h1{v2}", -17);
        outcome("not this one", 7, 0, 2, 0, 1, 1, 0, 0);
        act("t{h1{x3}}c3{v1}", -17);
        act("h1{t{h1{x3}}c3{v1}}", 0);
        outcome("the outer one is left", 0, 0, 5, 0, 2, 0, 1, 0);
        act("t{h2{a1}}f{v2}", -17);
        act("h3{r3{h3{v3}}}", 0);
        outcome("again and again", 0, 0, 8, 0, 2, 0, 3, 0);
        act("h1{a9}", 109);
        act("v1", -17);
    }

    private static void failures() {
        x = new RaceHouse();
        for (int k = 1; k <= 7; k++) act("x" + k, -10 - k);
        act("x0", -11);
        Due.due("P69 not of an act", x.fault(), 0);
        act("t{x3w0 1}c2{w1 1}c3{w2 1}c3{w3 1}c0{w4 1}w5 1", 0);
        counters("the first with this k", 0, 0, 1, 0, 0, 1);
        act("t{x3}c0{w0 1}c3{w1 1}", 0);
        counters("0 takes all", 1, 0, 1, 0, 0, 1);
        act("t{x0}c1{w0 1}", 0);
        counters("nothing thrown is null", 2, 0, 1, 0, 0, 1);
        act("t{t{x3}c2{}}c3{w0 1}", 0);
        counters("through an inner one", 3, 0, 1, 0, 0, 1);
        act("t{x3}c3{x4}c4{w0 1}", -14);
        act("t{t{x3}c3{x4}c4{w0 1}}c4{w1 1}", 0);
        counters("what a c fails by", 3, 1, 1, 0, 0, 1);
        act("t{w0 1}c0{w1 1}f{w2 1}", 0);
        counters("f in any case", 4, 1, 2, 0, 0, 1);
        act("t{x5}c5{w0 1}f{w1 1}w2 1", 0);
        counters("c and f", 5, 2, 3, 0, 0, 1);
        act("t{x5}c5{a4}f{w1 1}w2 1", 104);
        counters("f behind an answer of c", 5, 3, 3, 0, 0, 1);
        act("t{a4}c0{w0 1}f{w1 1}w2 1", 104);
        counters("an answer is not taken by c", 5, 4, 3, 0, 0, 1);
        act("r3{w0 1 t{a4}f{w1 1}}", 104);
        counters("an answer ends r", 6, 5, 3, 0, 0, 1);
        act("t{r7{w0 1 x1}}c1{}", 0);
        counters("a failure ends r", 7, 5, 3, 0, 0, 1);
        act("t{a1}f{a2}", 102);
        outcome("an answer for an answer", 0, 0, 3, 0, 0, 0);
        act("t{a1}f{x2}", -12);
        outcome("a failure for an answer", 2, 0, 3, 0, 0, 1);
        act("r0{w0 1}r2{}", 0);
        counters("not at all", 7, 5, 3, 0, 0, 1);
        act("t{x6}f{}", -16);
        outcome("f that ends well", 6, 0, 2, 0, 0, 1);
    }

    private static void counters(String what, int... want) {
        for (int i = 0; i < want.length; i++) Due.due("P35 " + what + ": " + i, x.counter(i), want[i]);
    }

    private static void pushedAside() {
        x = new RaceHouse();
        act("w0 5", 0);
        act("w0 1 t{x3}f{a5}", 105);
        outcome("by an answer", 0, 3, 4, 0, 0, 1);
        counters("undone", 5);
        act("t{x3}f{x4}", -14);
        outcome("by a failure", 4, 3, 3, 0, 0, 1);
        act("t{x3}c3{x4}f{x5}", -15);
        outcome("what c failed by", 5, 4, 4, 0, 0, 1);
        act("t{x3}c3{x4}", -14);
        outcome("what c took is over", 4, 0, 3, 0, 0, 1);
        act("t{x3}c3{}f{x5}", -15);
        outcome("taken ahead of f", 5, 0, 3, 0, 0, 1);
        act("w0 1 t{t{x3}f{x4}}c4{w0 1}", 0);
        outcome("taken later", 0, 3, 6, 0, 0, 1);
        counters("undone though it ended well", 5);
        act("t{t{x3}f{x4}}f{x5}", -15);
        outcome("the last one", 5, 4, 5, 0, 0, 1);
        act("t{x3}f{t{x4}c4{}}", -13);
        outcome("within f alone", 3, 0, 4, 0, 0, 1);
        act("t{x3}f{t{x4}f{x5}}", -15);
        outcome("within f, then f's", 5, 3, 5, 0, 0, 1);
        act("t{t{x1}f{a2}}f{a3}", 103);
        outcome("two answers", 0, 1, 5, 0, 0, 1);
        act("w1 1", 0);
        outcome("anew", 0, 0, 1, 0, 0, 0);
        counters("done", 5, 1);
    }

    private static void spent() {
        x = new RaceHouse();
        String two = "r7{r7{w0 1w0 1w0 1}}r7{w0 1w0 1w0 1w0 1}";
        // 1 + 7 + 147 and 1 + 28 are 184
        act(two, 0);
        outcome(two, 0, 0, 184);
        act(two + "r7{p0}r7{p0}l1", -20);
        outcome("the 201st is not begun", 8, 0, 200, 0, 0, 1, 0, 0);
        counters("undone", 175);
        Due.due("P68 undone", x.told(6), 0);
        act(two + "r7{p0}r7{p0}h1{}", -20);
        outcome("not held", 8, 0, 200, 0, 0, 1, 0, 0);
        act(two + "r7{p0}r7{p0}", 0);
        outcome("two hundred", 0, 0, 200, 0, 0, 0);
        counters("done", 350);
        x = new RaceHouse();
        act("l3 t{h1{v1 r7{r7{r7{w0 1}}}}}c0{w1 1}f{w2 1}w3 1", -20);
        outcome("no c and no f", 8, 0, 200, 1, 1, 1, 1, 4);
        counters("nothing", 0, 0, 0, 0);
        act("v1", -17);
        act("x2", -12);
        outcome("nothing left of the act before", 2, 0, 1, 0, 0, 1, 0, 0);
        act("t{r7{r7{r7{w0 1}}}}f{a1}", -20);
        act("t{}c2{}x2", -12);
        act("a3", 103);
        act("t{x2}f{r7{r7{r7{w0 1}}}}", -20);
        outcome("within f", 8, 0, 200, 0, 0, 1);
        act("w0 1 r7{r7{r3{w1 1}}} w2 1", -20);
        String exact = "r7{r7{w1 1w1 1w1 1}}r7{w1 1w1 1w1 1w1 1}r7{w1 1}w1 1w1 1w1 1w1 1w1 1w1 1w1 1";
        act(exact + "w1 1t{}f{}", -20);
        act(exact + "t{}c1{}f{}", 0);
        outcome("the 200th is t, its f no step", 0, 0, 200);
        act(exact + "a7", 107);
        outcome("the 200th answers", 0, 0, 200);
        act(exact + "x7", -17);
    }

    private static void deep() {
        x = new RaceHouse();
        StringBuilder plan = new StringBuilder();
        for (int i = 0; i < 133; i++) plan.append("t{");
        for (int i = 0; i < 133; i++) plan.append('}');
        act(plan.toString(), 0);
        outcome("133 deep", 0, 0, 133);
        plan.setLength(0);
        for (int i = 0; i < 98; i++) plan.append("h1{");
        plan.append("v1x1");
        for (int i = 0; i < 98; i++) plan.append('}');
        act(plan.toString(), -11);
        outcome("98 holds", 1, 0, 100, 0, 98, 1, 1);
        x = new RaceHouse();
        plan.setLength(0);
        for (int i = 0; i < 200; i++) plan.append("t{");
        wrong(plan.toString(), 400);
        plan.setLength(0);
        for (int i = 0; i < 56; i++) plan.append("t{");
        plan.append("x1");
        for (int i = 0; i < 56; i++) plan.append("}f{}");
        act(plan.toString(), -11);
        outcome("56 deep with f", 1, 0, 57);
        x = new RaceHouse();
        plan.setLength(0);
        for (int i = 0; i < 100; i++) plan.append("l1");
        for (int i = 0; i < 100; i++) plan.append("g1");
        act(plan.toString(), 0);
        outcome("all given back", 0, 0, 200, 0);
        plan.setLength(0);
        for (int i = 0; i < 200; i++) plan.append("l1");
        act(plan.toString(), 0);
        Due.due("P34 two hundred lent", x.outcome(3), 200);
    }

    private static void outcomes() {
        x = new RaceHouse();
        for (int what = 0; what < 8; what++) Due.due("P34 ahead of any", x.outcome(what), 0);
        Due.due("P34 8", x.outcome(8), Due.OUTSIDE);
        Due.due("P34 -1", x.outcome(-1), Due.OUTSIDE);
        act("l1 h1{v1} t{x2}f{x3}", -13);
        outcome("all", 3, 2, 6, 1, 1, 1, 1, 2);
        act("", 0);
        outcome("of nothing", 0, 0, 0, 0, 0, 0, 0, 0);
    }

    private static void undone() {
        x = new RaceHouse();
        act("w0 3 p0 w0 4 p0", 0);
        act("w0 1 p0 w1 1 p1 x2", -12);
        counters("as before", 7, 0);
        Due.due("P68 slips as before", x.told(6), 2);
        Due.due("P36 slip 1", x.slip(1), 7);
        Due.due("P36 slip 2", x.slip(2), Due.LOST);
        act("p0", 0);
        Due.due("P36 slip 2 then", x.slip(2), 7);
        act("w0 1 t{x3}c3{p0}", 0);
        Due.due("P36 done, for it was taken", x.slip(3), 8);
        act("w0 9999 w0 9999 w0 1", 0);
        x = new RaceHouse();
        act("w0 9999 p0", 0);
        for (int i = 0; i < 40; i++) act("r7{r7{w0 9999w0 9999w0 9999}}", 0);
        int wraps = 9999;
        for (int i = 0; i < 40 * 147; i++) wraps += 9999;
        Due.due("P35 many", x.counter(0), wraps);
    }

    // ---- at random

    private static final class Ends extends RuntimeException {
        private static final long serialVersionUID = 1;
        final int kind;

        Ends(int kind) {
            super(null, null, false, false);
            this.kind = kind;
        }
    }

    /** Reads and does at once the plan's text, as Java itself would. */
    private static final class Oracle {
        String text;
        int at;
        int[] counters = new int[8];
        List<Integer> slips = new ArrayList<>();
        Deque<Integer> lent;
        int[] holds;
        int steps;
        int wakings;
        int most;
        int aside;
        int backOrder;
        int back;
        int undone;
        int failed;

        int act(String plan) {
            text = plan;
            at = 0;
            try {
                List<Object[]> parts = plan(true);
                return perform(parts);
            } catch (IllegalStateException e) {
                return -1000 - at;
            }
        }

        void blanks() {
            while (at < text.length() && (text.charAt(at) == ' ' || text.charAt(at) == '\n')) at++;
        }

        char peek() {
            blanks();
            return at < text.length() ? text.charAt(at) : 0;
        }

        void need(boolean fine) {
            if (!fine) throw new IllegalStateException();
        }

        int digit(int most) {
            char c = peek();
            need(c >= '0' && c <= '0' + most);
            at++;
            return c - '0';
        }

        int number(boolean minus, int most) {
            peek();
            int from = at;
            if (minus && at < text.length() && text.charAt(at) == '-') at++;
            int digits = at;
            while (at < text.length() && at - digits < most && Character.isDigit(text.charAt(at))) at++;
            need(at > digits);
            return Integer.parseInt(text.substring(from, at));
        }

        List<Object[]> block() {
            need(peek() == '{');
            at++;
            List<Object[]> parts = plan(false);
            at++;
            return parts;
        }

        List<Object[]> plan(boolean whole) {
            List<Object[]> parts = new ArrayList<>();
            while (true) {
                char c = peek();
                if (at >= text.length()) {
                    need(whole);
                    return parts;
                }
                if (c == '}' && !whole) return parts;
                need("lgwdipxahvtr".indexOf(c) >= 0);
                at++;
                parts.add(part(c));
            }
        }

        Object[] part(char c) {
            switch (c) {
                case 'w':
                    return new Object[] {c, digit(7), number(true, 4)};
                case 'd':
                case 'i':
                    return new Object[] {c, digit(7), digit(7)};
                case 'a':
                    return new Object[] {c, number(false, 2)};
                case 'h':
                    return new Object[] {c, digit(3), block()};
                case 'v':
                    return new Object[] {c, digit(3)};
                case 'r':
                    return new Object[] {c, digit(7), block()};
                case 't':
                    List<Object[]> body = block();
                    List<Object[]> takes = new ArrayList<>();
                    while (peek() == 'c') {
                        at++;
                        takes.add(new Object[] {digit(7), block()});
                    }
                    List<Object[]> last = null;
                    if (peek() == 'f') {
                        at++;
                        last = block();
                    }
                    return new Object[] {c, body, takes, last};
                default:
                    return new Object[] {c, digit(7)};
            }
        }

        int perform(List<Object[]> parts) {
            int[] countersBefore = counters.clone();
            List<Integer> slipsBefore = new ArrayList<>(slips);
            lent = new ArrayDeque<>();
            holds = new int[4];
            steps = wakings = most = aside = backOrder = back = undone = failed = 0;
            int answer = 0;
            try {
                doAll(parts);
            } catch (Ends e) {
                if (e.kind >= 100) answer = e.kind;
                else failed = e.kind;
            }
            while (!lent.isEmpty()) {
                back++;
                backOrder = backOrder * 8 + lent.pop() + 1;
            }
            if (failed != 0 || aside != 0) {
                undone = 1;
                counters = countersBefore;
                slips = slipsBefore;
            }
            if (failed == 8) return -20;
            return failed != 0 ? -10 - failed : answer;
        }

        void doAll(List<Object[]> parts) {
            for (Object[] p : parts) {
                if (steps == 200) throw new Ends(8);
                steps++;
                doOne(p);
            }
        }

        void fail(boolean yes, int kind) {
            if (yes) throw new Ends(kind);
        }

        @SuppressWarnings("unchecked")
        void doOne(Object[] p) {
            char c = (Character) p[0];
            int d = p[1] instanceof Integer n ? n : 0;
            int e = p.length > 2 && p[2] instanceof Integer n ? n : 0;
            switch (c) {
                case 'l' -> lent.push(d);
                case 'g' -> fail(!lent.removeFirstOccurrence(d), 7);
                case 'w' -> counters[d] += e;
                case 'd' -> {
                    fail(counters[e] == 0, 6);
                    counters[d] = 60 / counters[e];
                }
                case 'i' -> {
                    fail(counters[e] < 0 || counters[e] >= slips.size(), 3);
                    counters[d] = slips.get(counters[e]);
                }
                case 'p' -> {
                    fail(slips.size() == 60, 3);
                    slips.add(counters[d]);
                }
                case 'x' -> fail(true, d == 0 ? 1 : d);
                case 'a' -> fail(true, 100 + d);
                case 'v' -> {
                    fail(holds[d] == 0, 7);
                    wakings++;
                }
                case 'h' -> {
                    holds[d]++;
                    most = Math.max(most, holds[d]);
                    try {
                        doAll((List<Object[]>) p[2]);
                    } finally {
                        holds[d]--;
                    }
                }
                case 'r' -> {
                    for (int i = 0; i < d; i++) doAll((List<Object[]>) p[2]);
                }
                default -> tries((List<Object[]>) p[1], (List<Object[]>) p[2], (List<Object[]>) p[3]);
            }
        }

        void tries(List<Object[]> body, List<Object[]> takes, List<Object[]> last) {
            Ends pending = null;
            try {
                taking(body, takes);
            } catch (Ends e) {
                if (e.kind == 8) throw e;
                pending = e;
            }
            if (last != null) {
                try {
                    doAll(last);
                } catch (Ends e) {
                    if (e.kind != 8 && pending != null && pending.kind < 8) aside = pending.kind;
                    throw e;
                }
            }
            if (pending != null) throw pending;
        }

        @SuppressWarnings("unchecked")
        void taking(List<Object[]> body, List<Object[]> takes) {
            try {
                doAll(body);
            } catch (Ends e) {
                if (e.kind >= 8) throw e;
                for (Object[] t : takes) {
                    int k = (Integer) t[0];
                    if (k != 0 && k != e.kind) continue;
                    doAll((List<Object[]>) t[1]);
                    return;
                }
                throw e;
            }
        }
    }

    private static final Random RANDOM = new Random(33);

    private static String some(int depth, int count) {
        StringBuilder s = new StringBuilder();
        for (int i = 0; i < count; i++) {
            String signs = depth > 0 ? "lgwdipxvahrtttt" : "llgwwdippxva";
            char c = signs.charAt(RANDOM.nextInt(signs.length()));
            if ((c == 'x' || c == 'a') && RANDOM.nextInt(3) > 0) c = 'w';
            s.append(c);
            if (c == 'w') s.append(RANDOM.nextInt(4)).append(RANDOM.nextInt(9) == 0 ? RANDOM.nextInt(19999) - 9999 : RANDOM.nextInt(9) - 4);
            else if (c == 'd' || c == 'i') s.append(RANDOM.nextInt(4)).append(RANDOM.nextInt(4));
            else if (c == 'a') s.append(RANDOM.nextInt(100));
            else if (c == 'v') s.append(RANDOM.nextInt(2));
            else if (c == 'x') s.append(RANDOM.nextInt(8));
            else if (c == 'h') s.append(RANDOM.nextInt(2)).append(block(depth));
            else if (c == 'r') s.append(RANDOM.nextInt(5)).append(block(depth));
            else if (c == 't') trial(s, depth);
            else s.append(RANDOM.nextInt(4));
            if (RANDOM.nextInt(6) == 0) s.append(RANDOM.nextBoolean() ? ' ' : '\n');
        }
        return s.toString();
    }

    private static String block(int depth) {
        return "{" + some(depth - 1, RANDOM.nextInt(4)) + "}";
    }

    private static void trial(StringBuilder s, int depth) {
        s.append(block(depth));
        for (int i = RANDOM.nextInt(3); i > 0; i--) s.append('c').append(RANDOM.nextInt(8)).append(block(depth));
        if (RANDOM.nextBoolean()) s.append('f').append(block(depth));
    }

    private static String spoilt(String plan) {
        String bytes = "lgwdipxahvtrcf{}0178 -9\n";
        StringBuilder s = new StringBuilder(plan);
        int at = RANDOM.nextInt(s.length() + 1);
        if (RANDOM.nextBoolean() && at < s.length()) s.deleteCharAt(at);
        if (RANDOM.nextBoolean()) s.insert(Math.min(at, s.length()), bytes.charAt(RANDOM.nextInt(bytes.length())));
        return s.toString();
    }

    private static void atRandom() {
        Oracle oracle = new Oracle();
        x = new RaceHouse();
        int calls = 0;
        for (int turn = 0; turn < 60000; turn++) {
            // the next plan may take 50 calls of feed, and all slips may be asked
            if (calls > 380) {
                oracle = new Oracle();
                x = new RaceHouse();
                calls = 0;
            }
            String plan = some(RANDOM.nextInt(6), 1 + RANDOM.nextInt(7));
            if (turn % 3 == 0) plan = spoilt(plan);
            if (plan.length() > 400) continue;
            int want = oracle.act(plan);
            calls += plan.length() / 8 + 21 + oracle.slips.size();
            act(plan, want);
            outcome(plan, oracle.failed, oracle.aside, oracle.steps, oracle.back, oracle.most, oracle.undone, oracle.wakings,
                oracle.backOrder);
            for (int i = 0; i < 8; i++) Due.due("P35 of " + plan, x.counter(i), oracle.counters[i]);
            Due.due("P68 slips of " + plan, x.told(6), oracle.slips.size());
            for (int i = 0; i < oracle.slips.size(); i++) Due.due("P36 of " + plan, x.slip(i), oracle.slips.get(i));
        }
    }
}
