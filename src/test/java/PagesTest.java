import java.util.Random;
import java.util.TreeMap;

/** Promises 61 to 67: pages. */
public final class PagesTest {
    private static RaceHouse x;

    public static void main(String[] args) {
        bytesOfAPage();
        keeps();
        cuts();
        alters();
        doubles();
        keptByNumbers();
        greatestNumber();
        numbersBelowZero();
        atRandom();
        Due.end();
    }

    private static int[] page(int number, long v) {
        int[] page = new int[16];
        for (int i = 0; i < 4; i++) page[i] = number >>> 24 - 8 * i & 255;
        for (int i = 0; i < 8; i++) page[4 + i] = (int) (v >>> 56 - 8 * i & 255);
        int s = 0;
        for (int i = 0; i < 12; i++) s = Integer.rotateLeft(s ^ page[i], 9) * 0x85EBCA6B;
        for (int i = 0; i < 4; i++) page[12 + i] = s >>> 24 - 8 * i & 255;
        return page;
    }

    /** Makes a SECTOR what a page is, by alter() alone. */
    private static void lay(int sector, int[] page) {
        for (int i = 0; i < 16; i++) {
            int mask = x.byteOf(sector, i) ^ page[i];
            if (mask != 0) Due.due("P63 alter", x.alter(sector, i, mask), page[i]);
        }
    }

    private static void dueBytes(String call, int sector, int[] page, int n) {
        for (int i = 0; i < 16; i++) Due.due(call + ", byte " + i, x.byteOf(sector, i), i < n ? page[i] : 0);
    }

    private static void duePages(String call, int... want) {
        for (int what = 0; what < want.length; what++) Due.due("P66 " + call + ": " + what, x.pages(what), want[what]);
    }

    private static void bytesOfAPage() {
        x = new RaceHouse();
        duePages("at first", 0, 0, 24, 0, 0);
        for (int i = 0; i < 16; i++) Due.due("P67 at first", x.byteOf(23, i), 0);
        long[] values = {0, -1, 0x0123456789ABCDEFL, Long.MIN_VALUE, 255, 1L << 40};
        for (int i = 0; i < values.length; i++) {
            Due.due("P61 keep", x.keep(values[i]), i + 1);
            dueBytes("P67 of " + values[i], i, page(i + 1, values[i]), 16);
            Due.due("P65 kept", x.kept(i), values[i]);
        }
        duePages("six", 6, 6, 18, 0, 0);
        Due.due("P67 sector", x.byteOf(24, 0), Due.UNKNOWN);
        Due.due("P67 sector -1", x.byteOf(-1, 0), Due.UNKNOWN);
        Due.due("P67 byte 16", x.byteOf(0, 16), Due.UNKNOWN);
        Due.due("P67 byte -1", x.byteOf(0, -1), Due.UNKNOWN);
        Due.due("P66 5", x.pages(5), Due.OUTSIDE);
        Due.due("P66 -1", x.pages(-1), Due.OUTSIDE);
        Due.due("P65 beyond", x.kept(6), Due.LOST);
        Due.due("P65 -1", x.kept(-1), Due.LOST);
        Due.due("P69 no fault", x.fault(), 0);
    }

    private static void keeps() {
        x = new RaceHouse();
        for (int i = 1; i <= 24; i++) Due.due("P61 keep", x.keep(i), i);
        Due.due("P61 full", x.keep(9), Due.FULL);
        x.cut(0);
        Due.due("P61 full, power stays set", x.keep(9), Due.FULL);
        x.alter(4, 5, 7);
        Due.due("P61 a lost one is not free", x.keep(9), Due.FULL);
        for (int i = 0; i < 16; i++) if (x.byteOf(4, i) != 0) x.alter(4, i, x.byteOf(4, i));
        Due.due("P66 free", x.pages(2), 1);
        Due.due("P61 power goes now", x.keep(9), Due.CUT);
        Due.due("P61 power is there again", x.keep(9), 25);
        dueBytes("P61 the least free sector", 4, page(25, 9), 16);
        Due.due("P65 by numbers", x.kept(23), 9);
        Due.due("P65 by numbers", x.kept(4), 6);
    }

    private static void cuts() {
        for (int n = 0; n <= 16; n++) {
            x = new RaceHouse();
            x.keep(-1);
            Due.due("P62 cut", x.cut(n), 1);
            Due.due("P61 behind " + n, x.keep(-2), n == 16 ? 2 : Due.CUT);
            dueBytes("P62 behind " + n, 1, page(2, -2), n);
            // the first three bytes are 0: what was cut there is still free
            if (n < 16) duePages("behind " + n, 1, 1, n <= 3 ? 23 : 22, n <= 3 ? 0 : 1, 0);
            Due.due("P61 the next", x.keep(-3), n == 16 ? Due.CUT : 2);
            if (n == 16) Due.due("P66 no byte of it", x.pages(2), 22);
            if (n == 16) Due.due("P61 the one after", x.keep(-3), 3);
        }
        x = new RaceHouse();
        x.cut(3);
        Due.due("P62 it stays", x.cut(-1), 1);
        Due.due("P61 whole", x.keep(1), 1);
        x.cut(0);
        x.cut(5);
        x.keep(1);
        dueBytes("P62 the latest", 1, page(2, 1), 5);
        Due.due("P62 -2", x.cut(-2), Due.OUTSIDE);
        Due.due("P62 17", x.cut(17), Due.OUTSIDE);
        Due.due("P61 not set by these", x.keep(1), 2);
    }

    private static void alters() {
        x = new RaceHouse();
        x.keep(77);
        for (int i = 0; i < 16; i++) {
            int was = x.byteOf(0, i);
            Due.due("P63 alter", x.alter(0, i, 0x81), was ^ 0x81);
            duePages("altered " + i, 0, 0, 23, 1, 0);
            Due.due("P65 not kept", x.kept(0), Due.LOST);
            Due.due("P63 alter back", x.alter(0, i, 0x81), was);
            duePages("as before", 1, 1, 23, 0, 0);
        }
        Due.due("P63 the greatest mask", x.alter(23, 15, 255), 255);
        Due.due("P66 lost", x.pages(3), 1);
        Due.due("P63 sector", x.alter(24, 16, 0), Due.UNKNOWN);
        Due.due("P63 sector -1", x.alter(-1, 0, 1), Due.UNKNOWN);
        Due.due("P63 byte", x.alter(0, 16, 1), Due.OUTSIDE);
        Due.due("P63 byte -1", x.alter(0, -1, 1), Due.OUTSIDE);
        Due.due("P63 mask 0", x.alter(0, 0, 0), Due.OUTSIDE);
        Due.due("P63 mask 256", x.alter(0, 0, 256), Due.OUTSIDE);
        Due.due("P63 mask -1", x.alter(0, 0, -1), Due.OUTSIDE);
    }

    private static void doubles() {
        x = new RaceHouse();
        x.keep(5);
        x.keep(6);
        Due.due("P64 doubled", x.doubled(9, 1), 1);
        dueBytes("P64 the bytes", 9, page(2, 6), 16);
        dueBytes("P64 from", 1, page(2, 6), 16);
        duePages("doubled", 2, 3, 21, 0, 0);
        Due.due("P61 the number behind", x.keep(7), 3);
        Due.due("P64 onto itself", x.doubled(9, 9), 1);
        Due.due("P64 a free one", x.doubled(9, 20), 1);
        duePages("free again", 3, 3, 21, 0, 0);
        lay(9, page(2, 100));
        duePages("unlike", 3, 4, 20, 0, 1);
        Due.due("P65 of the least sector", x.kept(1), 6);
        x.doubled(0, 9);
        duePages("the least sector is another", 2, 4, 20, 0, 1);
        Due.due("P65 the least sector", x.kept(0), 100);
        Due.due("P65 the other", x.kept(1), 7);
        Due.due("P64 sector", x.doubled(24, 0), Due.UNKNOWN);
        Due.due("P64 from", x.doubled(0, -1), Due.UNKNOWN);
    }

    private static void keptByNumbers() {
        x = new RaceHouse();
        int[] numbers = {50, 3, 50, 7, 1000000, 3, 50};
        for (int i = 0; i < numbers.length; i++) lay(2 * i + 1, page(numbers[i], i));
        duePages("numbers", 4, 7, 17, 0, 3);
        long[] want = {1, 3, 0, 4};
        for (int i = 0; i < want.length; i++) Due.due("P65 by numbers", x.kept(i), want[i]);
        Due.due("P65 no more", x.kept(4), Due.LOST);
        Due.due("P61 one more than the greatest", x.keep(8), 1000001);
        dueBytes("P61 the least free", 0, page(1000001, 8), 16);
    }

    private static void greatestNumber() {
        x = new RaceHouse();
        lay(3, page(Integer.MAX_VALUE - 1, 1));
        Due.due("P61 the greatest", x.keep(2), Integer.MAX_VALUE);
        Due.due("P61 no greater one", x.keep(3), Due.FULL);
        Due.due("P66 two", x.pages(0), 2);
        x.alter(0, 0, 1);
        Due.due("P61 not of a lost one", x.keep(3), Integer.MAX_VALUE);
    }

    private static void numbersBelowZero() {
        x = new RaceHouse();
        lay(0, page(-5, 1));
        lay(1, page(0, 1));
        lay(2, page(Integer.MIN_VALUE, 1));
        duePages("not above 0", 0, 0, 21, 3, 0);
        Due.due("P61 from 1", x.keep(4), 1);
    }

    private static void atRandom() {
        Random random = new Random(61);
        for (int run = 0; run < 600; run++) {
            x = new RaceHouse();
            int[][] sectors = new int[24][16];
            int power = -1;
            // a turn takes up to 62 calls
            for (int calls = 1; calls <= 450; calls++) {
                int s = random.nextInt(24);
                int from = random.nextInt(24);
                switch (random.nextInt(7)) {
                    case 0 -> {
                        power = random.nextInt(18) - 1;
                        Due.due("P62 at random", x.cut(power), 1);
                    }
                    case 1 -> {
                        int i = random.nextInt(16);
                        int mask = 1 + random.nextInt(255);
                        sectors[s][i] ^= mask;
                        Due.due("P63 at random", x.alter(s, i, mask), sectors[s][i]);
                    }
                    case 2 -> {
                        sectors[s] = sectors[from].clone();
                        Due.due("P64 at random", x.doubled(s, from), 1);
                    }
                    case 3 -> {
                        int[] page = page(1 + random.nextInt(6), random.nextInt(2));
                        lay(s, page);
                        sectors[s] = page;
                        calls += 32;
                    }
                    default -> power = keepAtRandom(sectors, power, random.nextLong() >> random.nextInt(64));
                }
                if (random.nextInt(3) > 0) continue;
                checkPages(sectors);
                calls += 30;
            }
        }
    }

    private static boolean isFree(int[] page) {
        for (int b : page) if (b != 0) return false;
        return true;
    }

    private static int numberOf(int[] page) {
        int number = 0;
        long v = 0;
        for (int i = 0; i < 4; i++) number = number << 8 | page[i];
        for (int i = 4; i < 12; i++) v = v << 8 | page[i];
        return number > 0 && java.util.Arrays.equals(page, page(number, v)) ? number : 0;
    }

    private static long valueOf(int[] page) {
        long v = 0;
        for (int i = 4; i < 12; i++) v = v << 8 | page[i];
        return v;
    }

    private static int keepAtRandom(int[][] sectors, int power, long v) {
        int greatest = 0;
        int free = -1;
        for (int s = 0; s < 24; s++) {
            greatest = Math.max(greatest, numberOf(sectors[s]));
            if (free < 0 && isFree(sectors[s])) free = s;
        }
        if (free < 0) {
            Due.due("P61 at random, full", x.keep(v), Due.FULL);
            return power;
        }
        int[] page = page(greatest + 1, v);
        int n = power < 0 ? 16 : power;
        System.arraycopy(page, 0, sectors[free], 0, Math.min(16, n));
        Due.due("P61 at random", x.keep(v), n < 16 ? Due.CUT : greatest + 1);
        return power < 0 || n < 16 ? -1 : n - 16;
    }

    private static void checkPages(int[][] sectors) {
        TreeMap<Integer, Long> kept = new TreeMap<>();
        int[] want = new int[5];
        for (int s = 0; s < 24; s++) {
            int number = numberOf(sectors[s]);
            if (isFree(sectors[s])) want[2]++;
            else if (number == 0) want[3]++;
            if (number == 0) continue;
            want[1]++;
            kept.putIfAbsent(number, valueOf(sectors[s]));
            if (kept.get(number) != valueOf(sectors[s])) want[4]++;
        }
        want[0] = kept.size();
        duePages("at random", want);
        int i = 0;
        for (long v : kept.values()) Due.due("P65 at random", x.kept(i++), v);
        Due.due("P65 at random, no more", x.kept(i), Due.LOST);
    }
}
