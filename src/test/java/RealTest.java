import java.math.BigDecimal;
import java.math.BigInteger;
import java.math.RoundingMode;
import java.util.Random;

/** Promises 28 to 31: whole and real times, beside what Java's own doubles answer. */
public final class RealTest {
    private static final Random RANDOM = new Random(28);
    private static RaceHouse x;

    public static void main(String[] args) {
        wholes();
        wholesAtRandom();
        gapsByHand();
        gapFaults();
        gapsAtRandom();
        tests();
        rankedByHand();
        rankedAtRandom();
        Due.end();
    }

    private static void lost(String call, long got, int fault) {
        Due.due(call, got, Due.LOST);
        Due.due(call + ": fault()", x.fault(), fault);
    }

    private static long fraction(int above, int below) {
        return (long) above << 32 | below & 0xFFFFFFFFL;
    }

    private static void wholes() {
        x = new RaceHouse();
        Due.due("P28 less", x.whole(0, 5, 8), -3);
        Due.due("P28 less wraps", x.whole(0, Long.MIN_VALUE, 1), Long.MAX_VALUE);
        Due.due("P28 by", x.whole(1, -7, 2), -3);
        Due.due("P28 by wraps", x.whole(1, Long.MIN_VALUE, -1), Long.MIN_VALUE);
        Due.due("P28 left", x.whole(2, -7, 2), -1);
        Due.due("P28 left of the least", x.whole(2, Long.MIN_VALUE, -1), 0);
        Due.due("P28 and", x.whole(3, 7, -9), -2);
        Due.due("P28 and, as ints", x.whole(3, (5L << 32) + 7, -1L << 32), 7);
        Due.due("P28 and, stopped above", x.whole(3, Integer.MAX_VALUE, 1), Integer.MAX_VALUE);
        Due.due("P28 and, stopped below", x.whole(3, Integer.MIN_VALUE, 0x80000000L), Integer.MIN_VALUE);
        Due.due("P28 over midnight", x.whole(4, 86399000, 1000), 2000);
        Due.due("P28 not over midnight", x.whole(4, 1000, 3000), 2000);
        Due.due("P28 a day", x.whole(4, 0, 86400000), 0);
        Due.due("P28 a day ahead", x.whole(4, 86400000, 0), 0);
        Due.due("P28 a wrap", x.whole(4, Long.MIN_VALUE, Long.MAX_VALUE), 86399999);
        Due.due("P28 half to even, down", x.whole(5, 5, fraction(1, 2)), 2);
        Due.due("P28 half to even, up", x.whole(5, 7, fraction(1, 2)), 4);
        Due.due("P28 below 0, half", x.whole(5, -5, fraction(1, 2)), -2);
        Due.due("P28 below 0, half, up", x.whole(5, -7, fraction(1, 2)), -4);
        Due.due("P28 below it below 0", x.whole(5, 7, fraction(1, -2)), -4);
        Due.due("P28 a's lowest bits", x.whole(5, (9L << 32) + 6, fraction(2, 3)), 4);
        Due.due("P28 greatest", x.whole(5, Integer.MIN_VALUE, fraction(Integer.MIN_VALUE, 1)), 1L << 62);
        Due.due("P28 greatest by -1", x.whole(5, Integer.MIN_VALUE, fraction(Integer.MIN_VALUE, -1)), -(1L << 62));
        Due.due("P28 by the least", x.whole(5, 3, fraction(1 << 30, Integer.MIN_VALUE)), -2);
        lost("P28 op 6", x.whole(6, 1, 0), 0);
        lost("P28 op -1", x.whole(-1, 1, 0), 0);
        for (int op : new int[] {1, 2}) {
            x = new RaceHouse();
            lost("P28 by 0, op " + op, x.whole(op, 1, 0), 6);
        }
        x = new RaceHouse();
        lost("P28 fraction by 0", x.whole(5, 1, fraction(1, 0)), 6);
    }

    private static void wholesAtRandom() {
        for (int turn = 0; turn < 20000; turn++) {
            if (turn % 170 == 0) x = new RaceHouse();
            long a = RANDOM.nextLong() >> RANDOM.nextInt(64);
            long b = RANDOM.nextLong() >> RANDOM.nextInt(64);
            Due.due("P28 over midnight " + a + " " + b, x.whole(4, a, b), Math.floorMod(b - a, 86400000L));
            long sum = (long) (int) a + (int) b;
            Due.due("P28 and", x.whole(3, a, b), sum > Integer.MAX_VALUE ? Integer.MAX_VALUE : Math.max(sum, Integer.MIN_VALUE));
            int above = RANDOM.nextInt() >> RANDOM.nextInt(32);
            int below = RANDOM.nextInt() >> RANDOM.nextInt(32);
            if (below == 0) continue;
            BigDecimal exact = new BigDecimal(BigInteger.valueOf((int) a).multiply(BigInteger.valueOf(above)));
            long want = exact.divide(new BigDecimal(below), 0, RoundingMode.HALF_EVEN).longValueExact();
            Due.due("P28 fraction " + (int) a + " " + above + " " + below, x.whole(5, a, fraction(above, below)), want);
        }
    }

    private static void fill(int type, double... items) {
        x.row(0, type, items.length);
        for (int i = 0; i < items.length; i++) x.put(0, type, i, Due.bits(items[i]));
    }

    private static void gapsByHand() {
        double endless = Double.POSITIVE_INFINITY;
        x = new RaceHouse();
        fill(4, 3.0, Double.NaN, -1.5, 8.0, 3.0);
        long[] want = {Due.bits(-1.5), Due.bits(8.0), Due.bits(3.0), Due.bits(12.5 / 4), Due.bits(9.5), 1, 3};
        for (int op = 0; op <= 6; op++) Due.due("P29 gap " + op, x.gap(0, op), want[op]);
        fill(4, 0.0, -0.0);
        Due.due("P29 like ones: the first is least", x.gap(0, 0), 0);
        Due.due("P29 like ones: the first is greatest", x.gap(0, 1), 0);
        Due.due("P29 like ones: the first of two", x.gap(0, 2), 0);
        fill(4, -0.0, 0.0, 0.0);
        Due.due("P29 like ones turned, least", x.gap(0, 0), Long.MIN_VALUE);
        Due.due("P29 like ones turned, greatest", x.gap(0, 1), Long.MIN_VALUE);
        Due.due("P29 like ones turned, middle", x.gap(0, 2), 0);
        Due.due("P29 from 0.0 on", x.gap(0, 3), 0);
        fill(4, -0.0);
        Due.due("P29 0.0 and -0.0", x.gap(0, 3), 0);
        Due.due("P29 -0.0 less -0.0", x.gap(0, 4), 0);
        fill(4, endless, -endless, 1.0);
        Due.due("P29 endless, least", x.gap(0, 0), Due.bits(-endless));
        Due.due("P29 endless, no sum", x.gap(0, 3), Due.NO_NUMBER);
        Due.due("P29 endless, whole", x.gap(0, 6), 0);
        Due.due("P29 endless, between", x.gap(0, 4), Due.bits(endless));
        Due.due("P29 endless ones are numbers", x.gap(0, 5), 0);
        fill(4, endless, endless);
        Due.due("P29 endless less endless", x.gap(0, 4), Due.NO_NUMBER);
        Due.due("P29 the greatest long", x.gap(0, 6), Long.MAX_VALUE / 2);
        fill(4, 1e300, 1e308, 1e308);
        Due.due("P29 beyond all", x.gap(0, 3), Due.bits(endless));
        fill(4, 1e16, 1.0, -1e16);
        Due.due("P29 as they stand", x.gap(0, 3), 0);
        fill(4, -1e16, 1e16, 1.0);
        Due.due("P29 as they stand, otherwise", x.gap(0, 3), Due.bits(1.0 / 3));
        fill(4, -Double.MIN_VALUE, 0.0);
        Due.due("P29 the least by two", x.gap(0, 3), Due.bits(-Double.MIN_VALUE / 2));
        fill(3, 0.1, 0.2);
        Due.due("P29 floats as doubles", x.gap(0, 3), Due.bits(((double) 0.1f + 0.2f) / 2));
        fill(4, -7.9, 0.5);
        Due.due("P29 cast, then by", x.gap(0, 6), -3);
    }

    private static void gapFaults() {
        x = new RaceHouse();
        fill(4, Double.NaN, Double.NaN);
        for (int op = 0; op <= 4; op++) {
            lost("P29 none, op " + op, x.gap(0, op), 0);
        }
        Due.due("P29 no numbers", x.gap(0, 5), 2);
        lost("P29 by none", x.gap(0, 6), 6);
        x.row(0, 3, 0);
        Due.due("P29 empty", x.gap(0, 5), 0);
        lost("P29 nothing", x.gap(1, 6), 1);
        lost("P29 box", x.gap(30, 0), 1);
        fill(4, 3.0, 4.0);
        lost("P29 op 7", x.gap(0, 7), 1);
        lost("P29 op -1", x.gap(0, -1), 1);
        for (int type : new int[] {1, 2, 5, 6, 7}) {
            x.row(2, type, 2);
            x.gap(1, 0);
            lost("P29 of type " + type, x.gap(2, 0), 2);
        }
        x.grid(2, 1, 1);
        x.gap(1, 0);
        lost("P29 grid", x.gap(2, 0), 2);
    }

    private static double someDouble(int turn) {
        double[] edges = {0.0, -0.0, 1.0, -1.0, Double.MAX_VALUE, -Double.MAX_VALUE, Double.MIN_VALUE, -Double.MIN_VALUE,
            Double.MIN_NORMAL, Double.POSITIVE_INFINITY, Double.NEGATIVE_INFINITY, Double.NaN, 0x1p63, -0x1p63, 0x1p62, 0x1p53};
        switch (turn % 6) {
            case 0:
                return Double.longBitsToDouble(RANDOM.nextLong());
            case 1:
                return edges[RANDOM.nextInt(edges.length)];
            case 2:
                return Double.longBitsToDouble(RANDOM.nextLong() & 0x800FFFFFFFFFFFFFL | (long) RANDOM.nextInt(60) << 52);
            case 3:
                return Math.scalb(RANDOM.nextDouble() - 0.5, RANDOM.nextInt(130) - 65);
            case 4:
                return RANDOM.nextInt(40) - 20;
            default:
                return Math.scalb(1.0 + RANDOM.nextInt(3) * Math.ulp(1.0), 970 + RANDOM.nextInt(54)) * (RANDOM.nextBoolean() ? 1 : -1);
        }
    }

    private static void gapsAtRandom() {
        for (int turn = 0; turn < 60000; turn++) {
            if (turn % 18 == 0) x = new RaceHouse();
            int n = 1 + RANDOM.nextInt(turn % 3 == 0 ? 20 : 3);
            int kind = RANDOM.nextInt(7);
            double[] items = new double[n];
            for (int i = 0; i < n; i++) items[i] = someDouble(kind < 6 ? kind : i + turn);
            int type = turn % 5 == 0 ? 3 : 4;
            if (type == 3) for (int i = 0; i < n; i++) items[i] = (float) items[i];
            fill(type, items);
            checkGap(items);
        }
    }

    private static void checkGap(double[] items) {
        double sum = 0.0;
        int count = 0;
        Double least = null;
        Double greatest = null;
        for (double d : items) {
            if (d != d) continue;
            sum += d;
            count++;
            if (least == null || d < least) least = d;
            if (greatest == null || d > greatest) greatest = d;
        }
        Due.due("P29 no numbers", x.gap(0, 5), items.length - count);
        if (count == 0) return;
        Due.due("P29 least", x.gap(0, 0), Due.bits(least));
        Due.due("P29 greatest", x.gap(0, 1), Due.bits(greatest));
        Due.due("P29 mean of " + java.util.Arrays.toString(items), x.gap(0, 3), Due.bits(sum / count));
        Due.due("P29 between", x.gap(0, 4), Due.bits(greatest - least));
        Due.due("P29 whole", x.gap(0, 6), (long) sum / count);
    }

    private static void tests() {
        x = new RaceHouse();
        double[] edges = {0.0, -0.0, 1.0, 1.0 + Math.ulp(1.0), -1.0, Double.NaN, Double.POSITIVE_INFINITY, Double.NEGATIVE_INFINITY,
            1e300, 1e301, -1e300, 1e-300, Double.MIN_VALUE, Float.MAX_VALUE, 0.1, (float) 0.1};
        for (double a : edges) for (double b : edges) checkTest(Due.bits(a), Due.bits(b));
        checkTest(-1, 0x7FF0000000000001L);
        checkTest(-1, 0);
        for (int turn = 0; turn < 2000; turn++) checkTest(RANDOM.nextLong(), RANDOM.nextLong());
        Due.due("P30 op 6", x.test(6, 0, 0, 0), Due.OUTSIDE);
        Due.due("P30 op -1", x.test(-1, 0, 0, 0), Due.OUTSIDE);
        Due.due("P30 how 4", x.test(0, 0, 0, 4), Due.OUTSIDE);
        Due.due("P30 how -1", x.test(0, 0, 0, -1), Due.OUTSIDE);
    }

    private static void checkTest(long p, long q) {
        x = new RaceHouse();
        double a = Double.longBitsToDouble(p);
        double b = Double.longBitsToDouble(q);
        float c = (float) a;
        float d = (float) b;
        boolean[] real = {a < b, a <= b, a > b, a >= b, a == b, a != b};
        boolean[] coarse = {c < d, c <= d, c > d, c >= d, c == d, c != d};
        for (int op = 0; op < 6; op++) {
            String call = "P30 test(" + op + ", " + a + ", " + b + ") ";
            Due.due(call + 0, x.test(op, p, q, 0), real[op] ? 1 : 0);
            Due.due(call + 1, x.test(op, p, q, 1), real[op] ? 0 : 1);
            Due.due(call + 2, x.test(op, p, q, 2), coarse[op] ? 1 : 0);
            Due.due(call + 3, x.test(op, p, q, 3), coarse[op] ? 0 : 1);
        }
    }

    private static void places(String call, int box, int... want) {
        Due.due(call + ": size", x.size(box, 2), want.length);
        for (int i = 0; i < want.length; i++) Due.due(call + ": " + i, x.get(box, 2, i), want[i]);
    }

    private static void rankedByHand() {
        x = new RaceHouse();
        fill(4, 0.0, Double.NaN, -0.0, -1.0, Double.NaN, 5.0, -1.0, Double.NEGATIVE_INFINITY);
        Due.due("P31 ranked", x.ranked(1, 0), 1);
        places("P31", 1, 7, 3, 6, 0, 2, 5, 1, 4);
        fill(3, 1e39, 2.0);
        Due.due("P31 onto itself", x.ranked(0, 0), 1);
        places("P31 floats", 0, 1, 0);
        Due.due("P31 ints", x.ranked(1, 0), Due.CAST);
        Due.due("P31 nothing", x.ranked(1, 9), Due.NULL);
        x.member(2, 10);
        Due.due("P31 member", x.ranked(1, 2), Due.CAST);
        Due.due("P31 box", x.ranked(30, 0), Due.UNKNOWN);
        Due.due("P31 from", x.ranked(0, 30), Due.UNKNOWN);
        Due.due("P31 rows made", x.told(0), 4);
        x.row(0, 4, 0);
        Due.due("P31 empty", x.ranked(1, 0), 1);
        places("P31 empty", 1);
    }

    private static void rankedAtRandom() {
        for (int turn = 0; turn < 3000; turn++) {
            if (turn % 11 == 0) x = new RaceHouse();
            double[] items = new double[RANDOM.nextInt(21)];
            Integer[] order = new Integer[items.length];
            for (int i = 0; i < items.length; i++) {
                items[i] = someDouble(turn % 2 == 0 ? 1 : i);
                order[i] = i;
            }
            java.util.Arrays.sort(order, (p, q) -> {
                double a = items[p];
                double b = items[q];
                if (a != a || b != b) return Boolean.compare(a != a, b != b);
                return a < b ? -1 : a > b ? 1 : 0;
            });
            fill(4, items);
            x.ranked(1, 0);
            int[] want = new int[items.length];
            for (int i = 0; i < want.length; i++) want[i] = order[i];
            places("P31 at random", 1, want);
            int numbers = 0;
            for (double d : items) if (d == d) numbers++;
            if (numbers > 0) Due.due("P29 middle", x.gap(0, 2), Due.bits(items[order[(numbers - 1) / 2]]));
        }
    }
}
