import java.util.Random;

/** Promises 1 to 16: the shelf. */
public final class ShelfTest {
    private static RaceHouse x;

    public static void main(String[] args) {
        newObject();
        rows();
        rowItems();
        floatsAsJavaCasts();
        sizes();
        grids();
        splits();
        giveAndTake();
        holds();
        kinds();
        likes();
        copies();
        copiesWhenFull();
        copiesWhenOthersAreFull();
        shiftRows();
        shiftRacks();
        limits();
        Due.end();
    }

    private static void newObject() {
        x = new RaceHouse();
        for (int box = 0; box < 30; box++) Due.due("P1 is(" + box + ", 0)", x.is(box, 0), 0);
        for (int what = 0; what <= 10; what++) Due.due("P1 told(" + what + ")", x.told(what), 0);
        for (int what = 0; what < 8; what++) Due.due("P1 outcome(" + what + ")", x.outcome(what), 0);
        for (int i = 0; i < 8; i++) Due.due("P1 counter(" + i + ")", x.counter(i), 0);
        for (int bib = 0; bib < 20; bib++) Due.due("P1 state(" + bib + ")", x.state(bib), 0);
        for (int chip = 0; chip < 40; chip++) Due.due("P1 chip(" + chip + ")", x.chip(chip, -1), -1);
        Due.due("P1 pages(2)", x.pages(2), 24);
        Due.due("P1 slip(0)", x.slip(0), Due.LOST);
        Due.due("P1 fault()", x.fault(), 0);
    }

    private static void rows() {
        x = new RaceHouse();
        for (int type = 1; type <= 7; type++) {
            Due.due("P2 row of type " + type, x.row(type, type, 20), 1);
            Due.due("P2 its type", x.is(type, type), 1);
            Due.due("P2 its size", x.size(type, type), 20);
            for (int i = 0; i < 20; i++) Due.due("P2 item at first", x.get(type, type, i), 0);
        }
        Due.due("P2 box -1", x.row(-1, 1, 1), Due.UNKNOWN);
        Due.due("P2 box 30", x.row(30, 9, -1), Due.UNKNOWN);
        Due.due("P2 box 29", x.row(29, 2, 0), 1);
        Due.due("P2 size 0", x.size(29, 2), 0);
        Due.due("P2 type 0", x.row(0, 0, 1), Due.OUTSIDE);
        Due.due("P2 type 8", x.row(0, 8, -1), Due.OUTSIDE);
        Due.due("P2 n 21", x.row(0, 1, 21), Due.OUTSIDE);
        Due.due("P2 no fault yet", x.fault(), 0);
        Due.due("P2 n -1", x.row(1, 1, -1), Due.SIZE);
        Due.due("P2 n least", x.row(1, 2, Integer.MIN_VALUE), Due.SIZE);
        Due.due("P2 fault", x.fault(), 5);
        Due.due("P2 changes nothing", x.size(1, 1), 20);
        Due.due("P2 made", x.told(0), 8);
    }

    private static void rowItems() {
        x = new RaceHouse();
        for (int type = 1; type <= 7; type++) x.row(type, type, 2);
        long[] values = {0, 1, -1, 2, 32767, 32768, -32768, -32769, 65535, 65536, 127, 128, -128, -129, 255, 256,
            Integer.MAX_VALUE, Integer.MIN_VALUE, 1L << 31, 1L << 32, Long.MAX_VALUE, Long.MIN_VALUE,
            Due.bits(0.1), Due.bits(1e300), Due.bits(-1e-300), 0x7FF0000000000001L, 0xFFF8000000000000L,
            Due.NO_NUMBER, 0x7FF0000000000000L, 0xFFF0000000000000L};
        for (long v : values) {
            puts(1, v, (short) v);
            puts(2, v, (int) v);
            puts(3, v, Double.doubleToLongBits((float) Double.longBitsToDouble(v)));
            puts(4, v, Double.doubleToLongBits(Double.longBitsToDouble(v)));
            puts(5, v, (char) v);
            puts(6, v, (byte) v);
            puts(7, v, v != 0 ? 1 : 0);
        }
        Due.due("P3 box", x.put(30, 1, 0, 1), Due.UNKNOWN);
        Due.due("P3 box and type", x.put(-1, 0, 0, 1), Due.UNKNOWN);
        Due.due("P3 type 0", x.put(1, 0, 0, 1), Due.OUTSIDE);
        Due.due("P3 type 8", x.put(1, 8, 0, 1), Due.OUTSIDE);
        Due.due("P3 nothing there", x.put(0, 1, 9, 1), Due.NULL);
        Due.due("P3 cast ahead of index", x.put(1, 2, 9, 1), Due.CAST);
        Due.due("P3 index", x.put(1, 1, 2, 1), Due.INDEX);
        Due.due("P3 index below", x.put(1, 1, -1, 1), Due.INDEX);
        x.grid(8, 1, 1);
        x.member(9, 10);
        x.pen(10, 9, 1);
        for (int box = 8; box <= 10; box++) Due.due("P3 no row", x.put(box, 2, 0, 1), Due.CAST);
        lost("P4 box", x.get(30, 1, 0), 2);
        lost("P4 type", x.get(1, 8, 0), 2);
        lost("P4 nothing", x.get(0, 1, 0), 1);
        lost("P4 cast", x.get(1, 2, 0), 2);
        lost("P4 index", x.get(1, 1, 2), 3);
        lost("P4 no row", x.get(8, 2, 0), 2);
    }

    private static void puts(int type, long v, long told) {
        int i = (int) (v & 1);
        Due.due("P3 put(" + type + ", " + v + ")", x.put(type, type, i, v), told == v ? 1 : 2);
        Due.due("P4 get of " + v + " of type " + type, x.get(type, type, i), told);
    }

    private static void lost(String call, long got, int fault) {
        Due.due(call, got, Due.LOST);
        Due.due(call + ": fault()", x.fault(), fault);
    }

    private static void floatsAsJavaCasts() {
        Random random = new Random(5);
        for (int turn = 0; turn < 200000; turn++) {
            if (turn % 250 == 0) {
                x = new RaceHouse();
                x.row(0, 3, 1);
            }
            long v = random.nextLong();
            if (turn % 4 == 1) v = nearAFloat(random, v);
            if (turn % 4 == 2) v = Due.bits((random.nextInt(4000) - 2000) / 2.0 * Float.MIN_VALUE) + random.nextInt(3) - 1;
            if (turn % 4 == 3) v = Due.bits(Float.MAX_VALUE) + (random.nextInt(9) - 4) * (1L << random.nextInt(30));
            long told = Double.doubleToLongBits((float) Double.longBitsToDouble(v));
            Due.due("P3 float of " + v, x.put(0, 3, 0, v), told == v ? 1 : 2);
            Due.due("P4 float of " + v, x.get(0, 3, 0), told);
        }
    }

    /** A double at, or right beside, the middle between two floats. */
    private static long nearAFloat(Random random, long v) {
        long middle = Due.bits(Float.intBitsToFloat((int) v)) | 1L << 28;
        return middle + random.nextInt(3) - 1;
    }

    private static void sizes() {
        x = new RaceHouse();
        x.row(0, 3, 7);
        x.grid(1, 5, -1);
        x.pen(2, 19, 12);
        x.member(3, 17);
        Due.due("P5 row", x.size(0, 3), 7);
        Due.due("P5 grid", x.size(1, 8), 5);
        Due.due("P5 pen", x.size(2, 20), 12);
        Due.due("P5 box", x.size(30, 0), Due.UNKNOWN);
        for (int type : new int[] {-1, 0, 9, 10, 19, 21}) Due.due("P5 type " + type, x.size(0, type), Due.OUTSIDE);
        Due.due("P5 cast of a row", x.size(0, 4), Due.CAST);
        Due.due("P5 cast to a grid", x.size(0, 8), Due.CAST);
        Due.due("P5 cast of a grid", x.size(1, 20), Due.CAST);
        Due.due("P5 cast of a grid to ints", x.size(1, 2), Due.CAST);
        Due.due("P5 cast of a member", x.size(3, 20), Due.CAST);
        Due.due("P5 nothing", x.size(4, 20), Due.NULL);
    }

    private static void grids() {
        x = new RaceHouse();
        Due.due("P6 grid", x.grid(0, 8, 12), 1);
        Due.due("P6 rows made", x.told(0), 8);
        Due.due("P6 last item", x.split(0, 7, 11), 0);
        Due.due("P6 without rows", x.grid(1, 8, -1), 1);
        Due.due("P6 no rows made", x.told(0), 8);
        Due.due("P6 no row there", x.setSplit(1, 0, 0, 1), Due.NULL);
        Due.due("P6 of none", x.grid(2, 0, 3), 1);
        Due.due("P6 no places", x.size(2, 8), 0);
        Due.due("P6 rows of none", x.grid(3, 2, 0), 1);
        Due.due("P6 item of none", x.setSplit(3, 1, 0, 1), Due.INDEX);
        Due.due("P6 box", x.grid(30, 9, 13), Due.UNKNOWN);
        Due.due("P6 places 9", x.grid(0, 9, 1), Due.OUTSIDE);
        Due.due("P6 n 13", x.grid(0, -1, 13), Due.OUTSIDE);
        Due.due("P6 places 9 and n below", x.grid(0, 9, -2), Due.OUTSIDE);
        Due.due("P6 places -1", x.grid(0, -1, -1), Due.SIZE);
        Due.due("P6 n -2", x.grid(0, 0, -2), Due.SIZE);
        Due.due("P6 changes nothing", x.size(0, 8), 8);
        Due.due("P6 grids made", x.told(1), 4);
        Due.due("P6 rows made", x.told(0), 10);
    }

    private static void splits() {
        x = new RaceHouse();
        x.grid(0, 2, 3);
        x.grid(1, 1, -1);
        x.row(2, 2, 3);
        x.pen(3, 9, 2);
        Due.due("P8 set", x.setSplit(0, 1, 2, Integer.MAX_VALUE), 1);
        Due.due("P7 split", x.split(0, 1, 2), Integer.MAX_VALUE);
        Due.due("P7 another", x.split(0, 0, 2), 0);
        Due.due("P9 wraps, what it was", x.stepSplit(0, 1, 2, false), Integer.MAX_VALUE);
        Due.due("P7 wrapped", x.split(0, 1, 2), Integer.MIN_VALUE);
        Due.due("P9 what it is", x.stepSplit(0, 1, 2, true), Integer.MIN_VALUE + 1);
        x.setSplit(0, 1, 2, Integer.MAX_VALUE);
        Due.due("P9 wraps, what it is", x.stepSplit(0, 1, 2, true), Integer.MIN_VALUE);
        int[][] calls = {{2, 0, 0, 2}, {3, 0, 0, 2}, {9, 0, 0, 1}, {0, 2, 0, 3}, {0, -1, 9, 3}, {1, 0, 0, 1},
            {1, 1, 0, 3}, {0, 0, 3, 3}, {0, 0, -1, 3}};
        for (int[] c : calls) {
            String name = "(" + c[0] + ", " + c[1] + ", " + c[2] + ")";
            lost("P7 split" + name, x.split(c[0], c[1], c[2]), c[3]);
            x.whole(1, 1, 0);
            lost("P9 stepSplit" + name, x.stepSplit(c[0], c[1], c[2], true), c[3]);
            x.whole(1, 1, 0);
            Due.due("P8 setSplit" + name, x.setSplit(c[0], c[1], c[2], 5), -10 - c[3]);
        }
        lost("P7 box", x.split(30, 0, 0), 3);
        lost("P9 box", x.stepSplit(-1, 0, 0, true), 3);
        Due.due("P8 box", x.setSplit(30, 0, 0, 1), Due.UNKNOWN);
    }

    private static void giveAndTake() {
        x = new RaceHouse();
        x.grid(0, 2, 1);
        x.row(1, 2, 4);
        x.row(2, 4, 4);
        x.member(3, 10);
        x.pen(4, 9, 2);
        Due.due("P10 give", x.give(0, 1, 1), 1);
        x.put(1, 2, 3, 77);
        Due.due("P10 the very same", x.split(0, 1, 3), 77);
        Due.due("P10 no ints", x.give(0, 0, 2), Due.STORE);
        Due.due("P10 a member", x.give(0, 0, 3), Due.STORE);
        Due.due("P10 a grid", x.give(0, 0, 0), Due.STORE);
        Due.due("P10 index ahead of store", x.give(0, 2, 2), Due.INDEX);
        Due.due("P10 index below", x.give(0, -1, 1), Due.INDEX);
        Due.due("P10 cast", x.give(1, 0, 1), Due.CAST);
        Due.due("P10 cast of a pen", x.give(4, 0, 9), Due.CAST);
        Due.due("P10 nothing", x.give(9, 0, 1), Due.NULL);
        Due.due("P10 box", x.give(30, 0, 1), Due.UNKNOWN);
        Due.due("P10 box from", x.give(0, 0, -1), Due.UNKNOWN);
        Due.due("P10 still there", x.split(0, 0, 0), 0);
        Due.due("P11 take", x.take(5, 0, 1), 1);
        Due.due("P11 the very same", x.get(5, 2, 3), 77);
        Due.due("P10 nothing is let", x.give(0, 1, 20), 1);
        Due.due("P11 take nothing", x.take(5, 0, 1), 1);
        Due.due("P11 nothing", x.is(5, 0), 0);
        Due.due("P11 index", x.take(5, 0, 2), Due.INDEX);
        Due.due("P11 index below", x.take(5, 0, -1), Due.INDEX);
        Due.due("P11 cast", x.take(5, 1, 0), Due.CAST);
        Due.due("P11 cast of a pen", x.take(5, 4, 0), Due.CAST);
        Due.due("P11 null", x.take(1, 20, 0), Due.NULL);
        Due.due("P11 box", x.take(30, 0, 0), Due.UNKNOWN);
        Due.due("P11 box from", x.take(0, 30, 0), Due.UNKNOWN);
        Due.due("P11 onto itself", x.take(0, 0, 0), 1);
        Due.due("P11 is a row now", x.is(0, 2), 1);
    }

    private static void holds() {
        x = new RaceHouse();
        x.row(0, 1, 2);
        Due.due("P12 hold", x.hold(1, 0), 1);
        x.put(0, 1, 0, 5);
        Due.due("P12 the very same", x.get(1, 1, 0), 5);
        Due.due("P12 nothing", x.hold(0, 20), 1);
        Due.due("P12 nothing there", x.is(0, 0), 0);
        Due.due("P12 box", x.hold(30, 0), Due.UNKNOWN);
        Due.due("P12 from", x.hold(0, -1), Due.UNKNOWN);
        Due.due("P12 made", x.told(0), 1);
    }

    private static void kinds() {
        x = new RaceHouse();
        int[][] of = {{}, {1}, {2}, {3}, {4}, {5}, {6}, {7}, {8}, {}, {10, 9}, {11, 10, 9, 19}, {12, 9}, {13, 9, 18},
            {}, {15, 14}, {16, 15, 14, 18}, {17, 14, 19}, {}, {}, {20}};
        for (int own = 0; own <= 20; own++) {
            if (of[own].length == 0) continue;
            if (own <= 7) x.row(0, own, 1);
            else if (own == 8) x.grid(0, 1, 1);
            else if (own == 20) x.pen(0, 9, 1);
            else x.member(0, own);
            for (int type = 0; type <= 20; type++) {
                int want = type == 0 ? 1 : 0;
                for (int t : of[own]) if (t == type) want = 1;
                Due.due("P13 " + own + " is of " + type, x.is(0, type), want);
            }
        }
        Due.due("P13 box", x.is(30, 21), Due.UNKNOWN);
        Due.due("P13 type 21", x.is(0, 21), Due.OUTSIDE);
        Due.due("P13 type -1", x.is(1, -1), Due.OUTSIDE);
        Due.due("P13 nothing", x.is(1, 20), 0);
    }

    private static void likes() {
        x = new RaceHouse();
        Due.due("P14 nothing and nothing", x.alike(0, 1), 1);
        x.row(0, 4, 2);
        Due.due("P14 nothing and a row", x.alike(0, 1), 0);
        Due.due("P14 a row and nothing", x.alike(1, 0), 0);
        x.row(1, 4, 2);
        Due.due("P14 rows", x.alike(0, 1), 1);
        for (int i = 0; i < 2; i++) {
            x.put(0, 4, i, 1);
            Due.due("P14 another item " + i, x.alike(0, 1), 0);
            x.put(0, 4, i, 0);
            Due.due("P14 as before", x.alike(0, 1), 1);
        }
        x.put(0, 4, 1, Due.bits(-0.0));
        Due.due("P14 zeros told otherwise", x.alike(0, 1), 0);
        x.put(0, 4, 1, -1);
        x.put(1, 4, 1, 0x7FF0000000000001L);
        Due.due("P14 no numbers", x.alike(0, 1), 1);
        x.row(1, 3, 2);
        x.row(0, 4, 2);
        Due.due("P14 other types", x.alike(0, 1), 0);
        x.row(1, 4, 3);
        Due.due("P14 other lengths", x.alike(0, 1), 0);
        x.grid(2, 2, 2);
        x.grid(3, 2, 2);
        Due.due("P14 grids", x.alike(2, 3), 1);
        x.setSplit(3, 1, 1, 4);
        Due.due("P14 grids with other items", x.alike(2, 3), 0);
        x.give(3, 1, 29);
        Due.due("P14 a place without", x.alike(2, 3), 0);
        Due.due("P14 a place without, turned", x.alike(3, 2), 0);
        x.give(2, 1, 29);
        Due.due("P14 both without", x.alike(2, 3), 1);
        x.grid(4, 3, -1);
        x.grid(5, 2, -1);
        Due.due("P14 grids of other lengths", x.alike(4, 5), 0);
        x.pen(6, 9, 2);
        x.pen(7, 9, 2);
        x.pen(8, 10, 2);
        x.pen(9, 9, 3);
        Due.due("P14 pens", x.alike(6, 7), 1);
        Due.due("P14 pens for other types", x.alike(6, 8), 0);
        Due.due("P14 pens of other lengths", x.alike(6, 9), 0);
        Due.due("P14 a pen and a grid", x.alike(6, 5), 0);
        x.member(10, 10);
        x.member(11, 10);
        Due.due("P14 members", x.alike(10, 11), 1);
        x.lead(6, 0, 10);
        x.lead(7, 0, 11);
        Due.due("P14 pens with other members", x.alike(6, 7), 0);
        x.lead(7, 0, 10);
        Due.due("P14 pens with the very same", x.alike(6, 7), 1);
        x.lead(6, 0, 29);
        Due.due("P14 a spot that is free", x.alike(6, 7), 0);
        likeMembers();
        Due.due("P14 box", x.alike(0, 30), Due.UNKNOWN);
        Due.due("P14 box", x.alike(-1, 0), Due.UNKNOWN);
    }

    private static void likeMembers() {
        for (int f = 0; f < 8; f++) {
            long v = f >= 6 ? Due.bits(1.5) : 1;
            x.set(10, f, v);
            Due.due("P14 field " + f, x.alike(10, 11), 0);
            x.set(11, f, v);
            Due.due("P14 field " + f + " of both", x.alike(10, 11), 1);
        }
        x.member(12, 10);
        x.member(13, 10);
        for (int which = 8; which <= 9; which++) {
            x.link(10, which, 12);
            Due.due("P14 link of one", x.alike(10, 11), 0);
            x.link(11, which, 13);
            Due.due("P14 links to two that are like", x.alike(10, 11), 0);
            x.link(11, which, 12);
            Due.due("P14 links to the very same", x.alike(10, 11), 1);
        }
        x.member(14, 11);
        x.member(15, 10);
        Due.due("P14 an elite one and a runner", x.alike(14, 15), 0);
        x.member(16, 15);
        x.member(17, 15);
        x.member(18, 16);
        Due.due("P14 sensors", x.alike(16, 17), 1);
        Due.due("P14 a mat and a beam", x.alike(16, 18), 0);
        Due.due("P14 itself", x.alike(14, 14), 1);
    }

    private static void copies() {
        x = new RaceHouse();
        x.row(0, 5, 3);
        x.put(0, 5, 2, 9);
        Due.due("P15 row", x.copy(1, 0, false), 1);
        Due.due("P15 alike", x.alike(0, 1), 1);
        x.put(1, 5, 2, 8);
        Due.due("P15 the first stays", x.get(0, 5, 2), 9);
        x.grid(2, 3, 2);
        x.give(2, 2, 29);
        x.take(3, 2, 0);
        x.give(2, 1, 3);
        Due.due("P15 rows so far", x.told(0), 5);
        Due.due("P15 grid", x.copy(4, 2, false), 1);
        x.setSplit(2, 0, 0, 6);
        Due.due("P15 very same rows", x.split(4, 1, 0), 6);
        Due.due("P15 no row made", x.told(0), 5);
        x.give(4, 2, 3);
        Due.due("P15 its own places", x.setSplit(2, 2, 0, 1), Due.NULL);
        Due.due("P15 deep", x.copy(5, 2, true), 1);
        Due.due("P15 two of one that is there twice", x.told(0), 7);
        Due.due("P15 deep alike", x.alike(5, 2), 1);
        x.setSplit(5, 0, 0, 3);
        Due.due("P15 deep: the first stays", x.split(2, 0, 0), 6);
        Due.due("P15 deep: the other too", x.split(5, 1, 0), 6);
        Due.due("P15 grids made", x.told(1), 3);
        copyPensAndMembers();
        Due.due("P15 nothing", x.copy(0, 29, true), 1);
        Due.due("P15 nothing there", x.is(0, 0), 0);
        Due.due("P15 box", x.copy(30, 0, false), Due.UNKNOWN);
        Due.due("P15 from", x.copy(0, 30, false), Due.UNKNOWN);
    }

    private static void copyPensAndMembers() {
        x.member(10, 11);
        x.member(11, 12);
        x.pen(12, 19, 2);
        x.lead(12, 1, 10);
        Due.due("P15 pen", x.copy(13, 12, true), 1);
        Due.due("P15 same members", x.out(13, 1, 19), 0);
        Due.due("P15 pens alike", x.alike(12, 13), 1);
        x.lead(12, 1, 29);
        Due.due("P15 its own spots", x.out(13, 1, 19), 0);
        Due.due("P15 for the same type", x.lead(13, 0, 11), Due.STORE);
        Due.due("P15 pens made", x.told(3), 2);
        for (int f = 0; f < 8; f++) x.set(10, f, 3);
        x.link(10, 8, 11);
        x.link(10, 9, 10);
        Due.due("P15 member", x.copy(14, 10, false), 1);
        Due.due("P15 members made", x.told(2), 3);
        Due.due("P15 members alike", x.alike(10, 14), 1);
        Due.due("P15 its link", x.field(14, 9), 0);
        Due.due("P15 its next", x.field(14, 8), 1);
        Due.due("P15 born by its own number", x.says(14, 4), 3 * 2 * 42 - 9);
        Due.due("P15 load by its own number", x.says(14, 0), 3 * (2 * 42 + 3) - (9 + 2 * (3 + 2)));
        x.set(14, 0, 8);
        Due.due("P15 its own fields", x.field(10, 0), 3);
    }

    private static void copiesWhenFull() {
        x = new RaceHouse();
        x.row(0, 1, 1);
        for (int i = 0; i < 292; i++) x.row(1, 2, 1);
        x.grid(2, 7, 1);
        Due.due("P15 rows full", x.told(0), 300);
        Due.due("P15 full of rows", x.copy(1, 0, false), Due.FULL);
        Due.due("P15 deep without room", x.copy(1, 2, true), Due.FULL);
        Due.due("P15 not deep has room", x.copy(1, 2, false), 1);
        Due.due("P31 full ahead of faults", x.ranked(1, 29), Due.FULL);
        Due.due("P6 grid without rows", x.grid(1, 3, -1), 1);
        Due.due("P6 grid of no places", x.grid(1, 0, 4), 1);
        Due.due("P6 rows full", x.grid(1, 1, 0), Due.FULL);
        Due.due("P6 size where rows are full", x.grid(1, -1, 2), Due.SIZE);
        Due.due("P6 size of rows where rows are full", x.grid(1, 2, -2), Due.SIZE);
        Due.due("P2 full ahead of size", x.row(1, 2, -1), Due.FULL);
        x = new RaceHouse();
        x.grid(0, 8, 0);
        for (int i = 0; i < 285; i++) x.row(1, 2, 0);
        Due.due("P15 seven left, eight wanted", x.copy(1, 0, true), Due.FULL);
        x.give(0, 3, 29);
        Due.due("P15 seven left, seven wanted", x.copy(1, 0, true), 1);
        Due.due("P15 all made", x.told(0), 300);
        x = new RaceHouse();
        for (int i = 0; i < 294; i++) x.row(1, 2, 0);
        Due.due("P6 six left, seven wanted", x.grid(1, 7, 1), Due.FULL);
        Due.due("P6 six left, six wanted", x.grid(1, 6, 1), 1);
    }

    private static void copiesWhenOthersAreFull() {
        x = new RaceHouse();
        x.grid(0, 1, -1);
        x.pen(1, 9, 1);
        for (int i = 0; i < 29; i++) x.grid(2, 0, -1);
        Due.due("P15 a pen where grids are full", x.copy(3, 1, true), 1);
        Due.due("P15 a grid where grids are full", x.copy(3, 0, true), Due.FULL);
        x = new RaceHouse();
        x.grid(0, 1, -1);
        x.pen(1, 9, 1);
        for (int i = 0; i < 19; i++) x.pen(2, 9, 0);
        Due.due("P15 a grid where pens are full", x.copy(3, 0, true), 1);
        Due.due("P15 a pen where pens are full", x.copy(3, 1, true), Due.FULL);
        x.member(4, 10);
        x.lead(1, 0, 4);
        for (int i = 0; i < 39; i++) x.member(5, 10);
        x.copy(6, 0, false);
        Due.due("P15 a member where members are full", x.copy(6, 4, false), Due.FULL);
        Due.due("P15 a row where those are full", x.copy(6, 29, false), 1);
        x.row(7, 2, 1);
        Due.due("P15 a row where others are full", x.copy(6, 7, false), 1);
    }

    private static void shiftRows() {
        x = new RaceHouse();
        x.row(0, 2, 6);
        x.row(1, 2, 4);
        x.row(2, 1, 6);
        for (int i = 0; i < 6; i++) x.put(0, 2, i, i + 1);
        Due.due("P16 rows", x.shift(0, 2, 1, 1, 3), 3);
        due3("P16 there", 1, 0, 3, 4, 5);
        Due.due("P68 went", x.told(4), 3);
        Due.due("P16 upward within one", x.shift(0, 0, 0, 2, 4), 4);
        due3("P16 as by way of others", 0, 1, 2, 1, 2, 3, 4);
        Due.due("P16 downward within one", x.shift(0, 2, 0, 1, 4), 4);
        due3("P16 as by way of others, down", 0, 1, 1, 2, 3, 4, 4);
        Due.due("P16 none", x.shift(0, 6, 1, 4, 0), 0);
        Due.due("P68 none went", x.told(4), 0);
        x.shift(0, 0, 1, 0, 2);
        Due.due("P16 box", x.shift(30, 0, 0, 0, 0), Due.UNKNOWN);
        Due.due("P16 box to", x.shift(0, 0, -1, 0, 0), Due.UNKNOWN);
        Due.due("P68 not of a refused one", x.told(4), 2);
        Due.due("P16 null from", x.shift(29, -1, 2, 0, 0), Due.NULL);
        Due.due("P68 none with a fault", x.told(4), 0);
        Due.due("P16 null to", x.shift(0, -1, 29, 0, 0), Due.NULL);
        Due.due("P16 other types", x.shift(0, -1, 2, 0, 0), Due.STORE);
        int[][] beyond = {{-1, 0, 1}, {0, -1, 1}, {0, 0, -1}, {4, 0, 3}, {0, 2, 3}, {6, 0, 1}, {7, 0, 0}, {0, 5, 0},
            {Integer.MAX_VALUE, 0, 1}, {1, 1, Integer.MAX_VALUE}, {0, Integer.MAX_VALUE, Integer.MAX_VALUE}};
        for (int[] b : beyond) {
            x.shift(0, 0, 1, 0, 2);
            Due.due("P16 beyond " + b[0] + " " + b[1] + " " + b[2], x.shift(0, b[0], 1, b[1], b[2]), Due.INDEX);
            Due.due("P68 nothing went", x.told(4), 0);
        }
        x.member(3, 10);
        x.grid(4, 2, 1);
        x.pen(5, 9, 2);
        int[][] pairs = {{3, 3}, {3, 0}, {0, 3}, {4, 3}, {5, 3}, {3, 4}, {0, 4}, {4, 0}, {0, 5}, {5, 0}};
        for (int[] p : pairs) Due.due("P16 not of one kind", x.shift(p[0], -1, p[1], 0, 0), Due.STORE);
    }

    private static void due3(String call, int box, int... want) {
        for (int i = 0; i < want.length; i++) Due.due(call, x.get(box, 2, i), want[i]);
    }

    private static void shiftRacks() {
        x = new RaceHouse();
        x.grid(0, 4, 1);
        x.grid(1, 3, -1);
        for (int i = 0; i < 4; i++) x.setSplit(0, i, 0, i + 1);
        Due.due("P16 grids", x.shift(0, 1, 1, 0, 3), 3);
        Due.due("P16 the very same rows", x.setSplit(1, 0, 0, 20), 1);
        Due.due("P16 the very same rows seen", x.split(0, 1, 0), 20);
        Due.due("P16 within one grid", x.shift(0, 0, 0, 1, 3), 3);
        int[] up = {1, 1, 20, 3};
        for (int i = 0; i < 4; i++) Due.due("P16 up", x.split(0, i, 0), up[i]);
        Due.due("P16 within one grid, down", x.shift(0, 2, 0, 1, 2), 2);
        int[] down = {1, 20, 3, 3};
        for (int i = 0; i < 4; i++) Due.due("P16 down", x.split(0, i, 0), down[i]);
        Due.due("P16 grids beyond", x.shift(0, 2, 1, 0, 3), Due.INDEX);
        Due.due("P16 grids beyond, to", x.shift(0, 0, 1, 1, 3), Due.INDEX);
        x.pen(2, 9, 3);
        x.pen(3, 10, 3);
        x.member(4, 10);
        x.member(5, 11);
        x.member(6, 12);
        x.lead(2, 0, 4);
        x.lead(2, 1, 6);
        x.lead(2, 2, 5);
        Due.due("P16 a pair in a pen for runners", x.shift(2, 0, 3, 0, 3), Due.STORE);
        Due.due("P16 those ahead of it are there", x.out(3, 0, 10), 0);
        Due.due("P16 not those behind", x.out(3, 2, 10), Due.NONE);
        Due.due("P68 those ahead of it", x.told(4), 1);
        Due.due("P69 fault", x.fault(), 4);
        Due.due("P16 pens", x.shift(3, 0, 2, 1, 2), 2);
        Due.due("P16 moved", x.out(2, 1, 9), 0);
        Due.due("P16 freed", x.out(2, 2, 9), Due.NONE);
        Due.due("P16 within one pen", x.shift(2, 0, 2, 1, 2), 2);
        Due.due("P16 last", x.out(2, 2, 9), 0);
        gridsAndPens();
    }

    private static void gridsAndPens() {
        x.grid(7, 3, -1);
        x.row(8, 2, 1);
        x.pen(9, 9, 3);
        x.lead(9, 0, 4);
        x.lead(9, 2, 4);
        x.give(7, 2, 8);
        Due.due("P16 a row in a pen", x.shift(7, 0, 9, 0, 3), Due.STORE);
        Due.due("P16 free now", x.out(9, 0, 9), Due.NONE);
        Due.due("P16 not overwritten", x.out(9, 2, 9), 0);
        Due.due("P68 two ahead", x.told(4), 2);
        Due.due("P16 places without into a pen", x.shift(7, 0, 9, 1, 2), 2);
        Due.due("P16 free then", x.out(9, 2, 9), Due.NONE);
        Due.due("P16 free spots into a grid", x.shift(9, 0, 7, 1, 2), 2);
        Due.due("P16 place without", x.setSplit(7, 2, 0, 1), Due.NULL);
        x.lead(9, 1, 5);
        Due.due("P16 a member in a grid", x.shift(9, 0, 7, 0, 3), Due.STORE);
        Due.due("P68 one ahead", x.told(4), 1);
    }

    private static void limits() {
        x = new RaceHouse();
        for (int i = 0; i < 300; i++) Due.due("P2 row " + i, x.row(0, 1, 0), 1);
        Due.due("P2 the 301st", x.row(0, 1, 0), Due.FULL);
        for (int i = 0; i < 30; i++) Due.due("P6 grid " + i, x.grid(1, 0, -1), 1);
        Due.due("P6 the 31st", x.grid(1, 0, -1), Due.FULL);
        Due.due("P6 full ahead of size", x.grid(1, -1, -1), Due.FULL);
        Due.due("P15 grids full", x.copy(2, 1, false), Due.FULL);
        Due.due("P15 changes nothing", x.is(2, 0), 0);
        for (int i = 0; i < 40; i++) Due.due("P17 member", x.member(3, 10), i);
        Due.due("P17 the 41st", x.member(3, 10), Due.FULL);
        Due.due("P15 members full", x.copy(2, 3, false), Due.FULL);
        for (int i = 0; i < 20; i++) Due.due("P24 pen", x.pen(4, 9, 1), 1);
        Due.due("P24 the 21st", x.pen(4, 9, 1), Due.FULL);
        Due.due("P24 full ahead of size", x.pen(4, 9, -1), Due.FULL);
        Due.due("P15 pens full", x.copy(2, 4, false), Due.FULL);
        int[] made = {300, 30, 40, 20};
        for (int what = 0; what < 4; what++) Due.due("P68 told(" + what + ")", x.told(what), made[what]);
    }
}
