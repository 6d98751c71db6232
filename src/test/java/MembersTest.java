/** Promises 17 to 27: members and pens. */
public final class MembersTest {
    private static final int[] MADE = {10, 11, 12, 13, 15, 16, 17};
    private static RaceHouse x;

    public static void main(String[] args) {
        members();
        answersOfAll();
        answersThatWrap();
        pairs();
        fields();
        fieldFaults();
        steps();
        links();
        teams();
        pens();
        leads();
        outs();
        askedInPens();
        Due.end();
    }

    private static void lost(String call, long got, int fault) {
        Due.due(call, got, Due.LOST);
        Due.due(call + ": fault()", x.fault(), fault);
    }

    private static void members() {
        x = new RaceHouse();
        int number = 0;
        for (int type = -1; type <= 21; type++) {
            boolean made = false;
            for (int m : MADE) if (m == type) made = true;
            Due.due("P17 member(0, " + type + ")", x.member(0, type), made ? number : Due.OUTSIDE);
            if (made) number++;
            if (made) Due.due("P17 its type", x.is(0, type), 1);
        }
        Due.due("P17 box", x.member(30, 9), Due.UNKNOWN);
        Due.due("P17 box", x.member(-1, 10), Due.UNKNOWN);
        Due.due("P68 members", x.told(2), 7);
        Due.due("P69 no fault", x.fault(), 0);
    }

    /** For each kind, as the number rises, the ASKS by the words of part 2. */
    private static void answersOfAll() {
        x = new RaceHouse();
        for (int n = 0; n < 40; n++) {
            int type = MADE[n % MADE.length];
            Due.due("P17 number", x.member(0, type), n);
            long[] want = {Due.LOST, Due.LOST, Due.LOST, Due.LOST, Due.LOST};
            if (type == 10) {
                want[0] = 2 * (40 + n);
                want[4] = 2 * (40 + n);
            } else if (type == 11) {
                want[0] = 6 * (40 + n) - 13;
                want[3] = 13;
                want[4] = 6 * (40 + n) - 9;
            } else if (type == 12) {
                want[4] = 1;
            } else if (type == 13) {
                want[0] = 10 + 2 * (n % 5 + 5) + 12;
                want[1] = 10 + 2 * (n % 5 + 5);
                want[4] = 10 + 2 * (n % 5) + 7;
            } else if (type == 15) {
                want[2] = 100 + n;
            } else if (type == 16) {
                want[1] = 16;
                want[2] = 2 * (100 + n) + 16;
            } else {
                want[2] = 100 - 49;
                want[3] = 49;
            }
            for (int ask = 0; ask <= 4; ask++) Due.due("P18 " + type + " says to " + ask, x.says(0, ask), want[ask]);
        }
        lost("P18 box", x.says(30, 0), 2);
        lost("P18 ask", x.says(0, 5), 2);
        lost("P18 ask below", x.says(0, -1), 2);
        lost("P18 nothing", x.says(1, 0), 1);
        x.row(2, 2, 2);
        for (int ask = 0; ask <= 4; ask++) {
            x.says(1, 0);
            lost("P18 a row", x.says(2, ask), 2);
        }
        x.member(0, 10);
        lost("P18 a runner rolls not", x.says(0, 1), 2);
    }

    private static void answersThatWrap() {
        x = new RaceHouse();
        x.member(0, 10);
        x.set(0, 4, Integer.MAX_VALUE);
        Due.due("P18 wraps", x.says(0, 0), Integer.MAX_VALUE + 80);
        Due.due("P18 born stays", x.says(0, 4), 80);
        x.member(1, 11);
        x.set(1, 4, 1000000000);
        x.set(1, 2, -128);
        Due.due("P18 elite wraps", x.says(1, 0), 3 * (82 + 1000000000) - (9 + 2 * (-128 + 2)));
        Due.due("P18 glance", x.says(1, 3), 9 + 2 * (-126));
        x.member(2, 13);
        x.set(2, 4, 50);
        x.set(2, 2, 50);
        Due.due("P18 a wheel has no eye for fields", x.says(2, 0), 10 + 2 * 7 + 12);
    }

    private static void pairs() {
        x = new RaceHouse();
        x.member(0, 12);
        x.member(1, 10);
        lost("P18 a pair without", x.says(0, 0), 1);
        x.link(0, 9, 1);
        lost("P18 a rival is no next", x.says(0, 0), 1);
        x.link(0, 8, 1);
        Due.due("P18 a pair", x.says(0, 0), 40);
        x.set(1, 0, -1999);
        Due.due("P18 the year of next", x.says(0, 0), 40 - 1999);
        x.set(0, 0, 7);
        Due.due("P18 not its own year", x.says(0, 0), 40 - 1999);
        x.link(0, 8, 0);
        Due.due("P18 next to itself", x.says(0, 0), 47);
        Due.due("P18 born", x.says(0, 4), 1);
    }

    private static void fields() {
        x = new RaceHouse();
        for (int k = 0; k < 4; k++) {
            x.member(0, MADE[k]);
            for (int f = 0; f < 8; f++) Due.due("P20 at first", x.field(0, f), 0);
            Due.due("P20 next", x.field(0, 8), -1);
            Due.due("P20 rival", x.field(0, 9), -1);
        }
        long[] values = {0, 1, -1, 32768, 65535, 65536, 128, -129, 1L << 31, 1L << 40, Long.MIN_VALUE, Long.MAX_VALUE,
            Due.bits(0.1), Due.bits(1e300), Due.bits(-1e-300), 0x7FF0000000000001L, Due.NO_NUMBER};
        for (long v : values) {
            sets(0, v, (short) v);
            sets(1, v, (char) v);
            sets(2, v, (byte) v);
            sets(3, v, v != 0 ? 1 : 0);
            sets(4, v, (int) v);
            sets(5, v, v);
            sets(6, v, Double.doubleToLongBits((float) Double.longBitsToDouble(v)));
            sets(7, v, Double.doubleToLongBits(Double.longBitsToDouble(v)));
        }
        for (int f = 0; f < 8; f++) x.set(0, f, 100 + f);
        Due.due("P19 one field alone", x.field(0, 4), 104);
        Due.due("P19 one field alone", x.field(0, 5), 105);
    }

    private static void sets(int f, long v, long told) {
        Due.due("P19 set(" + f + ", " + v + ")", x.set(0, f, v), told == v ? 1 : 2);
        Due.due("P20 field(" + f + ") of " + v, x.field(0, f), told);
    }

    private static void fieldFaults() {
        x = new RaceHouse();
        x.member(0, 10);
        x.member(1, 15);
        x.row(2, 2, 2);
        Due.due("P19 box", x.set(30, 8, 1), Due.UNKNOWN);
        Due.due("P19 field 8", x.set(0, 8, 1), Due.OUTSIDE);
        Due.due("P19 field -1", x.set(0, -1, 1), Due.OUTSIDE);
        Due.due("P19 outside ahead of faults", x.set(9, 8, 1), Due.OUTSIDE);
        Due.due("P19 a sensor", x.set(1, 0, 1), Due.CAST);
        Due.due("P19 a row", x.set(2, 0, 1), Due.CAST);
        Due.due("P19 nothing", x.set(9, 0, 1), Due.NULL);
        lost("P20 box", x.field(30, 0), 1);
        lost("P20 field 10", x.field(0, 10), 1);
        lost("P20 field -1", x.field(2, -1), 1);
        lost("P20 a sensor", x.field(1, 0), 2);
        lost("P20 a link of a sensor", x.field(1, 9), 2);
        lost("P20 nothing", x.field(9, 8), 1);
    }

    private static void steps() {
        x = new RaceHouse();
        x.member(0, 13);
        int[] fields = {0, 1, 2, 4, 5};
        long[] least = {-32768, 0, -128, Integer.MIN_VALUE, Long.MIN_VALUE};
        long[] most = {32767, 65535, 127, Integer.MAX_VALUE, Long.MAX_VALUE};
        for (int k = 0; k < fields.length; k++) {
            int f = fields[k];
            x.set(0, f, 6);
            Due.due("P21 more, what it was", x.step(0, f, 0), 6);
            Due.due("P21 more, what it is", x.step(0, f, 1), 8);
            Due.due("P21 less, what it was", x.step(0, f, 2), 8);
            Due.due("P21 less, what it is", x.step(0, f, 3), 6);
            x.set(0, f, most[k]);
            Due.due("P21 cut upward", x.step(0, f, 1), least[k]);
            Due.due("P20 after", x.field(0, f), least[k]);
            Due.due("P21 cut downward", x.step(0, f, 3), most[k]);
            Due.due("P21 was at the end", x.step(0, f, 0), most[k]);
            Due.due("P21 was at the other end", x.step(0, f, 2), least[k]);
            Due.due("P20 after that", x.field(0, f), most[k]);
        }
        x.member(1, 16);
        lost("P21 a sensor", x.step(1, 0, 0), 2);
        lost("P21 nothing", x.step(2, 0, 0), 1);
        lost("P21 box", x.step(30, 0, 0), 1);
        for (int f : new int[] {-1, 3, 6, 7, 8}) lost("P21 field " + f, x.step(1, f, 0), 1);
        lost("P21 how 4", x.step(1, 0, 4), 1);
        lost("P21 how -1", x.step(1, 0, -1), 1);
    }

    private static void links() {
        x = new RaceHouse();
        x.member(0, 10);
        x.member(1, 13);
        x.member(2, 17);
        x.row(3, 2, 1);
        Due.due("P22 next", x.link(0, 8, 1), 1);
        Due.due("P22 rival", x.link(0, 9, 0), 1);
        Due.due("P20 next", x.field(0, 8), 1);
        Due.due("P20 rival", x.field(0, 9), 0);
        Due.due("P22 none", x.link(0, 8, 9), 1);
        Due.due("P20 none", x.field(0, 8), -1);
        Due.due("P20 the other stays", x.field(0, 9), 0);
        Due.due("P22 box", x.link(30, 8, 0), Due.UNKNOWN);
        Due.due("P22 other box", x.link(0, 7, 30), Due.UNKNOWN);
        Due.due("P22 which 7", x.link(0, 7, 1), Due.OUTSIDE);
        Due.due("P22 which 10", x.link(2, 10, 1), Due.OUTSIDE);
        Due.due("P22 the one is a sensor", x.link(2, 8, 0), Due.CAST);
        Due.due("P22 the other is a row", x.link(0, 8, 3), Due.CAST);
        Due.due("P22 cast of the other ahead of null", x.link(9, 8, 2), Due.CAST);
        Due.due("P22 null", x.link(9, 8, 0), Due.NULL);
        Due.due("P22 null and none", x.link(9, 8, 10), Due.NULL);
        Due.due("P20 unchanged", x.field(0, 8), -1);
    }

    private static void teams() {
        x = new RaceHouse();
        for (int i = 0; i < 5; i++) x.member(i, 10);
        Due.due("P23 one", x.team(4), 1);
        for (int i = 0; i < 4; i++) x.link(i, 8, i + 1);
        Due.due("P23 five", x.team(0), 5);
        Due.due("P23 from the middle", x.team(2), 3);
        x.link(4, 8, 2);
        Due.due("P23 the first that comes again", x.team(0), 102);
        Due.due("P23 within the ring", x.team(3), 103);
        x.link(1, 8, 1);
        Due.due("P23 its own next", x.team(0), 101);
        x.link(3, 9, 0);
        x.link(4, 8, 29);
        Due.due("P23 rivals do not count", x.team(2), 3);
        x.member(6, 15);
        Due.due("P23 a sensor", x.team(6), Due.CAST);
        Due.due("P23 nothing", x.team(7), Due.NULL);
        Due.due("P23 box", x.team(30), Due.UNKNOWN);
        x = new RaceHouse();
        x.member(0, 13);
        x.hold(1, 0);
        for (int i = 1; i < 40; i++) {
            x.member(2, 10);
            x.link(1, 8, 2);
            x.hold(1, 2);
        }
        Due.due("P23 all forty", x.team(0), 40);
        x.link(1, 8, 1);
        Due.due("P23 the last again", x.team(0), 139);
        x.link(1, 8, 0);
        Due.due("P23 the first again", x.team(0), 100);
    }

    private static void pens() {
        x = new RaceHouse();
        for (int type = -1; type <= 21; type++) {
            boolean fine = type >= 9 && type <= 13 || type == 18 || type == 19;
            Due.due("P24 for " + type, x.pen(0, type, 1), fine ? 1 : Due.OUTSIDE);
        }
        Due.due("P24 n 12", x.pen(0, 9, 12), 1);
        Due.due("P24 size", x.size(0, 20), 12);
        Due.due("P24 n 0", x.pen(1, 9, 0), 1);
        Due.due("P24 no spots", x.size(1, 20), 0);
        Due.due("P24 n 13", x.pen(0, 9, 13), Due.OUTSIDE);
        Due.due("P24 n -1", x.pen(0, 9, -1), Due.SIZE);
        Due.due("P24 box", x.pen(30, 8, 13), Due.UNKNOWN);
        Due.due("P24 unchanged", x.size(0, 20), 12);
        Due.due("P68 pens", x.told(3), 9);
    }

    private static void leads() {
        int[][] admits = {{9, 10, 11, 12, 13}, {10, 10, 11}, {11, 11}, {12, 12}, {13, 13}, {18, 13, 16}, {19, 11, 17}};
        x = new RaceHouse();
        for (int k = 0; k < MADE.length; k++) x.member(MADE[k], MADE[k]);
        x.row(1, 2, 1);
        x.grid(2, 1, 1);
        for (int[] a : admits) {
            x.pen(0, a[0], 2);
            for (int type : MADE) {
                boolean fine = false;
                for (int i = 1; i < a.length; i++) if (a[i] == type) fine = true;
                Due.due("P25 " + type + " in a pen for " + a[0], x.lead(0, 1, type), fine ? 1 : Due.STORE);
            }
            for (int box = 0; box <= 2; box++) Due.due("P25 no member", x.lead(0, 0, box), Due.STORE);
        }
        x.pen(0, 9, 2);
        x.lead(0, 0, 10);
        Due.due("P25 free", x.lead(0, 0, 29), 1);
        Due.due("P26 free", x.out(0, 0, 9), Due.NONE);
        Due.due("P25 index ahead of store", x.lead(0, 2, 1), Due.INDEX);
        Due.due("P25 index below", x.lead(0, -1, 10), Due.INDEX);
        Due.due("P25 cast", x.lead(2, 0, 10), Due.CAST);
        Due.due("P25 cast of a member", x.lead(10, 0, 10), Due.CAST);
        Due.due("P25 nothing", x.lead(29, 0, 1), Due.NULL);
        Due.due("P25 box", x.lead(30, 0, 10), Due.UNKNOWN);
        Due.due("P25 who", x.lead(0, 0, 30), Due.UNKNOWN);
    }

    private static void outs() {
        x = new RaceHouse();
        x.member(9, 10);
        x.member(1, 11);
        x.pen(0, 10, 3);
        x.lead(0, 1, 1);
        for (int type = 9; type <= 19; type++) {
            boolean fine = type <= 11 || type == 19;
            Due.due("P26 cast to " + type, x.out(0, 1, type), fine ? 1 : Due.CAST);
            Due.due("P26 free", x.out(0, 2, type), Due.NONE);
        }
        Due.due("P26 type 8", x.out(0, 1, 8), Due.OUTSIDE);
        Due.due("P26 type 20", x.out(0, 1, 20), Due.OUTSIDE);
        Due.due("P26 box", x.out(30, 1, 20), Due.UNKNOWN);
        Due.due("P26 no pen", x.out(1, 1, 9), Due.CAST);
        Due.due("P26 nothing", x.out(2, 1, 9), Due.NULL);
        Due.due("P26 index", x.out(0, 3, 12), Due.INDEX);
        Due.due("P26 index below", x.out(0, -1, 9), Due.INDEX);
    }

    private static void askedInPens() {
        x = new RaceHouse();
        x.member(1, 13);
        x.member(2, 16);
        x.member(3, 12);
        x.pen(0, 18, 3);
        x.lead(0, 0, 1);
        x.lead(0, 1, 2);
        Due.due("P27 a wheel's reach", x.asked(0, 0, 1), 20);
        Due.due("P27 a wheel's load", x.asked(0, 0, 0), 32);
        Due.due("P27 a wheel's birth", x.asked(0, 0, 4), 17);
        Due.due("P27 a beam's duty", x.asked(0, 1, 2), 218);
        lost("P27 a beam has no load", x.asked(0, 1, 0), 2);
        lost("P27 free", x.asked(0, 2, 1), 1);
        lost("P27 index", x.asked(0, 3, 1), 3);
        lost("P27 index below", x.asked(0, -1, 1), 3);
        lost("P27 no pen", x.asked(1, 0, 1), 2);
        lost("P27 nothing", x.asked(9, 0, 1), 1);
        x.asked(0, 3, 1);
        lost("P27 box", x.asked(30, 0, 1), 3);
        lost("P27 ask", x.asked(9, 0, 5), 3);
        lost("P27 ask below", x.asked(9, 0, -1), 3);
        x.pen(4, 12, 1);
        x.lead(4, 0, 3);
        lost("P27 null within", x.asked(4, 0, 0), 1);
    }
}
