import java.math.BigDecimal;
import java.math.BigInteger;
import java.math.RoundingMode;
import java.util.ArrayList;
import java.util.Comparator;
import java.util.List;
import java.util.Map;
import java.util.Random;
import java.util.TreeMap;

/** Promises 37 to 45: clocks, chips, reads and passes. */
public final class ClocksTest {
    private static final int LATEST = 1000000000;
    private static RaceHouse x;

    public static void main(String[] args) {
        marks();
        lines();
        hutTimes();
        chips();
        reads();
        rules();
        kindsOfReads();
        passes();
        asTheyAreNow();
        hutsAtRandom();
        passesAtRandom();
        Due.end();
    }

    private static void marks() {
        x = new RaceHouse();
        for (int i = 0; i < 10; i++) Due.due("P37 mark", x.mark(5, 100 * (10 - i), 7), i + 1);
        Due.due("P37 the 11th", x.mark(5, 5, 5), Due.FULL);
        Due.due("P37 in place of one", x.mark(5, 300, 9), 10);
        Due.due("P39 in place", x.hut(5, 0, 300), 9);
        Due.due("P37 unread where it is full", x.mark(5, 5, -1), 10);
        Due.due("P68 unread", x.told(10), 1);
        Due.due("P37 unread, of one that is there", x.mark(5, 300, -1), 10);
        Due.due("P39 still there", x.hut(5, 0, 300), 9);
        Due.due("P68 unread", x.told(10), 2);
        Due.due("P37 unread alone", x.mark(4, 3, -1), 0);
        Due.due("P39 not of it", x.hut(4, 0, 3), Due.LOST);
        Due.due("P37 mat 6", x.mark(6, -1, 0), Due.UNKNOWN);
        Due.due("P37 mat -1", x.mark(-1, 0, 0), Due.UNKNOWN);
        Due.due("P37 local -1", x.mark(5, -1, 0), Due.OUTSIDE);
        Due.due("P37 local beyond", x.mark(5, LATEST + 1, 0), Due.OUTSIDE);
        Due.due("P37 hut -2", x.mark(5, 0, -2), Due.OUTSIDE);
        Due.due("P37 hut beyond", x.mark(5, 0, LATEST + 1), Due.OUTSIDE);
        Due.due("P37 unread, local beyond", x.mark(5, LATEST + 1, -1), Due.OUTSIDE);
        Due.due("P68 not counted", x.told(10), 3);
        Due.due("P37 the ends", x.mark(0, 0, LATEST), 1);
        Due.due("P37 the other ends", x.mark(0, LATEST, 0), 2);
    }

    private static void lines() {
        x = new RaceHouse();
        x.mark(2, 10, 20);
        for (int i = 1; i <= 7; i++) Due.due("P38 anew", x.anew(2), i);
        Due.due("P38 the ninth line", x.anew(2), Due.FULL);
        Due.due("P38 mat 6", x.anew(6), Due.UNKNOWN);
        Due.due("P38 mat -1", x.anew(-1), Due.UNKNOWN);
        Due.due("P37 of the latest line", x.mark(2, 10, 50), 1);
        Due.due("P39 the first line", x.hut(2, 0, 10), 20);
        Due.due("P39 the last line", x.hut(2, 7, 10), 50);
        Due.due("P39 one between", x.hut(2, 3, 10), Due.LOST);
        x.mark(3, 4, 4);
        Due.due("P39 line 8 is not the next mat's first", x.hut(2, 8, 10), Due.LOST);
        Due.due("P39 line 9", x.hut(5, 9, 10), Due.LOST);
        Due.due("P39 line -1", x.hut(2, -1, 10), Due.LOST);
        x.mark(1, 5, 5);
        Due.due("P39 a line that is not there", x.hut(1, 1, 5), Due.LOST);
        Due.due("P39 other mats have their own", x.hut(1, 0, 7), 7);
        Due.due("P39 mat", x.hut(6, 0, 5), Due.LOST);
        Due.due("P39 local beyond", x.hut(1, 0, LATEST + 1), Due.LOST);
        Due.due("P39 local below", x.hut(1, 0, -1), Due.LOST);
        Due.due("P39 local at the end", x.hut(1, 0, LATEST), LATEST);
        Due.due("P69 none of these is a fault", x.fault(), 0);
    }

    private static void hutTimes() {
        x = new RaceHouse();
        x.mark(0, 100, 20);
        Due.due("P39 one alone", x.hut(0, 0, 5), -75);
        x.mark(0, 110, 25);
        Due.due("P39 half to even, down", x.hut(0, 0, 101), 20);
        Due.due("P39 half to even, up", x.hut(0, 0, 103), 22);
        Due.due("P39 ahead of the first", x.hut(0, 0, 0), -30);
        Due.due("P39 ahead, half", x.hut(0, 0, 1), -30);
        Due.due("P39 ahead, half", x.hut(0, 0, 3), -28);
        x.mark(0, 120, 125);
        Due.due("P39 at the second", x.hut(0, 0, 110), 25);
        Due.due("P39 behind the second", x.hut(0, 0, 111), 35);
        Due.due("P39 ahead of the second", x.hut(0, 0, 109), 24);
        Due.due("P39 behind the last", x.hut(0, 0, 130), 225);
        x.mark(0, 115, 0);
        Due.due("P39 a clock that falls", x.hut(0, 0, 113), 10);
        Due.due("P39 behind the last but one", x.hut(0, 0, 116), 25);
        x.mark(1, 0, LATEST);
        x.mark(1, 1, 0);
        Due.due("P39 far behind", x.hut(1, 0, LATEST), LATEST - (long) LATEST * LATEST);
        x.mark(2, LATEST, 0);
        x.mark(2, LATEST - 1, LATEST);
        Due.due("P39 far ahead", x.hut(2, 0, 0), (long) LATEST * LATEST);
        x.mark(3, 0, 1);
        x.mark(3, 10, 16);
        Due.due("P39 all of it rounded", x.hut(3, 0, 1), 2);
        Due.due("P39 all of it rounded", x.hut(3, 0, 3), 6);
        Due.due("P39 all of it rounded", x.hut(3, 0, 5), 8);
    }

    private static void chips() {
        x = new RaceHouse();
        Due.due("P40 nobody's at first", x.chip(39, 19), -1);
        Due.due("P40 whose it was", x.chip(39, 0), 19);
        Due.due("P40 nobody's", x.chip(39, -1), 0);
        Due.due("P40 nobody's again", x.chip(39, 5), -1);
        Due.due("P40 chip 40", x.chip(40, 20), Due.UNKNOWN);
        Due.due("P40 chip -1", x.chip(-1, 0), Due.UNKNOWN);
        Due.due("P40 bib 20", x.chip(39, 20), Due.OUTSIDE);
        Due.due("P40 bib -2", x.chip(39, -2), Due.OUTSIDE);
        Due.due("P40 unchanged", x.chip(39, 5), 5);
    }

    private static void reads() {
        x = new RaceHouse();
        Due.due("P41 mat", x.read(6, 40, -1, 100), Due.UNKNOWN);
        Due.due("P41 mat -1", x.read(-1, 0, 0, 0), Due.UNKNOWN);
        Due.due("P41 chip", x.read(0, 40, 0, 0), Due.OUTSIDE);
        Due.due("P41 chip -1", x.read(0, -1, 0, 0), Due.OUTSIDE);
        Due.due("P41 local", x.read(0, 0, LATEST + 1, 0), Due.OUTSIDE);
        Due.due("P41 local -1", x.read(0, 0, -1, 0), Due.OUTSIDE);
        Due.due("P41 strength", x.read(0, 0, 0, 100), Due.OUTSIDE);
        Due.due("P41 strength -1", x.read(0, 0, 0, -1), Due.OUTSIDE);
        for (int i = 0; i < 120; i++) Due.due("P41 read", x.read(i % 6, i % 40, i % 2 == 0 ? 0 : LATEST, i % 100), i);
        Due.due("P41 the 121st", x.read(0, 0, 0, 0), Due.FULL);
        Due.due("P41 outside ahead of full", x.read(0, 0, 0, 100), Due.OUTSIDE);
        Due.due("P68 reads", x.told(7), 120);
    }

    private static void rules() {
        x = new RaceHouse();
        Due.due("P42 gap -1", x.rules(-1, 0, 0), Due.OUTSIDE);
        Due.due("P42 gap beyond", x.rules(60001, 0, 0), Due.OUTSIDE);
        Due.due("P42 least -1", x.rules(0, -1, 0), Due.OUTSIDE);
        Due.due("P42 least 100", x.rules(0, 100, 0), Due.OUTSIDE);
        Due.due("P42 rule -1", x.rules(0, 0, -1), Due.OUTSIDE);
        Due.due("P42 rule 3", x.rules(0, 0, 3), Due.OUTSIDE);
        x.mark(0, 0, 0);
        x.chip(0, 0);
        x.read(0, 0, 0, 10);
        x.read(0, 0, 1500, 10);
        x.read(0, 0, 3001, 10);
        x.read(0, 0, 3001, 9);
        Due.due("P42 gap 1500 at first", x.passes(0, 0), 2);
        Due.due("P42 least 10 at first", x.readOf(3), 2);
        Due.due("P42 rule 0 at first", x.pass(0, 0, 0), 0);
        Due.due("P42 the ends", x.rules(60000, 99, 2), 1);
        Due.due("P44 all are weak", x.passes(0, 0), 0);
        Due.due("P42 the other ends", x.rules(0, 0, 0), 1);
        Due.due("P44 gap 0", x.passes(0, 0), 3);
        Due.due("P43 none is weak", x.readOf(3), 0);
        Due.due("P42 gap", x.rules(1501, 0, 0), 1);
        Due.due("P44 one", x.passes(0, 0), 1);
    }

    private static void kindsOfReads() {
        x = new RaceHouse();
        x.mark(0, 0, 0);
        x.chip(1, 3);
        x.read(0, 2, 5, 5);
        x.read(0, 1, 5, 9);
        x.read(1, 1, 5, 9);
        x.read(1, 1, 5, 10);
        x.read(0, 1, 5, 10);
        x.read(1, 2, 5, 10);
        int[] want = {1, 2, 2, 3, 0, 1};
        for (int i = 0; i < want.length; i++) Due.due("P43 readOf " + i, x.readOf(i), want[i]);
        Due.due("P43 beyond", x.readOf(6), Due.UNKNOWN);
        Due.due("P43 -1", x.readOf(-1), Due.UNKNOWN);
        x.mark(1, 3, 9);
        Due.due("P43 a hut time now", x.readOf(3), 0);
        x.chip(1, -1);
        Due.due("P43 nobody's now", x.readOf(3), 1);
    }

    private static void passes() {
        x = new RaceHouse();
        x.mark(0, 0, 0);
        x.chip(0, 4);
        x.chip(1, 4);
        x.chip(2, 5);
        x.rules(100, 0, 0);
        int[][] reads = {{0, 500, 50}, {1, 450, 60}, {2, 460, 99}, {0, 600, 60}, {0, 701, 20}, {1, 801, 20}, {0, 450, 10}};
        for (int[] r : reads) x.read(0, r[0], r[1], r[2]);
        Due.due("P44 passes", x.passes(0, 4), 2);
        Due.due("P45 the first", x.pass(0, 4, 0), 450);
        Due.due("P45 the second", x.pass(0, 4, 1), 701);
        Due.due("P45 the third", x.pass(0, 4, 2), Due.LOST);
        Due.due("P45 -1", x.pass(0, 4, -1), Due.LOST);
        x.rules(100, 0, 1);
        Due.due("P45 the strongest, of several the first", x.pass(0, 4, 0), 450);
        Due.due("P45 of like ones the first", x.pass(0, 4, 1), 701);
        x.rules(100, 11, 1);
        Due.due("P45 not the weak", x.pass(0, 4, 0), 450);
        x.rules(100, 0, 2);
        Due.due("P45 the middle, of two the first", x.pass(0, 4, 0), 450);
        Due.due("P45 the middle of two", x.pass(0, 4, 1), 701);
        x.rules(100, 11, 2);
        Due.due("P45 the middle of three", x.pass(0, 4, 0), 500);
        Due.due("P44 another bib's", x.passes(0, 5), 1);
        Due.due("P44 another mat", x.passes(1, 4), 0);
        Due.due("P44 mat", x.passes(6, 0), Due.UNKNOWN);
        Due.due("P44 mat -1", x.passes(-1, 0), Due.UNKNOWN);
        Due.due("P44 bib", x.passes(0, 20), Due.UNKNOWN);
        Due.due("P44 bib -1", x.passes(0, -1), Due.UNKNOWN);
        x.read(0, 9, 50, 50);
        x.mark(1, 0, 0);
        x.read(1, 9, 50, 50);
        Due.due("P44 nobody's are not those of bib -1", x.passes(0, -1), Due.UNKNOWN);
        Due.due("P45 nobody's are not those of bib -1", x.pass(0, -1, 0), Due.LOST);
        Due.due("P45 mat", x.pass(6, 0, 0), Due.LOST);
        Due.due("P45 bib", x.pass(0, 20, 0), Due.LOST);
        Due.due("P45 bib -1", x.pass(0, -1, 0), Due.LOST);
        Due.due("P69 no fault", x.fault(), 0);
    }

    /** LINES, CHIPS and rules as they are now, but the LINE of a READ as it came. */
    private static void asTheyAreNow() {
        x = new RaceHouse();
        x.chip(0, 1);
        x.read(3, 0, 100, 50);
        Due.due("P44 no hut time", x.passes(3, 1), 0);
        x.anew(3);
        x.mark(3, 0, 1000);
        Due.due("P44 its own line", x.passes(3, 1), 0);
        x.read(3, 0, 100, 50);
        Due.due("P45 the latest line", x.pass(3, 1, 0), 1100);
        x.mark(3, 0, 5000);
        Due.due("P45 a mark altered", x.pass(3, 1, 0), 5100);
        x.chip(0, 2);
        Due.due("P44 no more", x.passes(3, 1), 0);
        Due.due("P45 another's", x.pass(3, 2, 0), 5100);
    }

    private static void hutsAtRandom() {
        Random random = new Random(39);
        for (int turn = 0; turn < 3000; turn++) {
            x = new RaceHouse();
            int reach = 1 + (int) Math.pow(10, random.nextInt(10));
            TreeMap<Integer, Integer> marks = new TreeMap<>();
            for (int i = random.nextInt(13); i > 0; i--) {
                int local = random.nextInt(Math.min(reach, LATEST) + 1);
                int hut = random.nextInt(Math.min(reach, LATEST) + 1);
                boolean full = marks.size() == 10 && !marks.containsKey(local);
                if (!full) marks.put(local, hut);
                Due.due("P37 at random", x.mark(0, local, hut), full ? Due.FULL : marks.size());
            }
            for (int i = 0; i < 20; i++) {
                int local = random.nextInt(Math.min(2 * reach, LATEST) + 1);
                Due.due("P39 hut of " + local + " by " + marks, x.hut(0, 0, local), hut(marks, local));
            }
        }
    }

    private static long hut(TreeMap<Integer, Integer> marks, int local) {
        if (marks.isEmpty()) return Due.LOST;
        Map.Entry<Integer, Integer> a = marks.floorEntry(local);
        if (a == null) a = marks.firstEntry();
        Map.Entry<Integer, Integer> b = marks.higherEntry(a.getKey());
        if (b == null) {
            b = a;
            a = marks.lowerEntry(b.getKey());
        }
        if (a == null) return (long) local + b.getValue() - b.getKey();
        BigInteger run = BigInteger.valueOf(b.getKey() - a.getKey());
        BigInteger rise = BigInteger.valueOf(b.getValue() - a.getValue());
        BigInteger above = BigInteger.valueOf(a.getValue()).multiply(run).add(BigInteger.valueOf(local - a.getKey()).multiply(rise));
        return new BigDecimal(above).divide(new BigDecimal(run), 0, RoundingMode.HALF_EVEN).longValueExact();
    }

    private static void passesAtRandom() {
        Random random = new Random(44);
        for (int turn = 0; turn < 2000; turn++) {
            x = new RaceHouse();
            List<TreeMap<Integer, Integer>> lines = new ArrayList<>();
            lines.add(new TreeMap<>());
            int[] bibs = {0, 0, 1, -1};
            for (int c = 0; c < 4; c++) x.chip(c, bibs[c]);
            int gap = random.nextInt(200);
            int least = random.nextInt(30);
            int rule = random.nextInt(3);
            x.rules(gap, least, rule);
            List<long[]> reads = new ArrayList<>();
            for (int i = random.nextInt(60); i > 0; i--) {
                int what = random.nextInt(12);
                if (what == 0 && lines.size() < 8) {
                    x.anew(1);
                    lines.add(new TreeMap<>());
                } else if (what <= 2 && lines.get(lines.size() - 1).size() < 10) {
                    int local = random.nextInt(1000);
                    int hut = random.nextInt(1500);
                    x.mark(1, local, hut);
                    lines.get(lines.size() - 1).put(local, hut);
                } else {
                    long[] read = {lines.size() - 1, random.nextInt(4), random.nextInt(1000), random.nextInt(100), reads.size(), 0};
                    x.read(1, (int) read[1], (int) read[2], (int) read[3]);
                    reads.add(read);
                }
            }
            for (long[] r : reads) r[5] = hut(lines.get((int) r[0]), (int) r[2]);
            for (int bib = 0; bib < 2; bib++) checkPasses(reads, bibs, bib, gap, least, rule);
        }
    }

    private static void checkPasses(List<long[]> reads, int[] bibs, int bib, int gap, int least, int rule) {
        List<long[]> own = new ArrayList<>();
        for (long[] r : reads) if (bibs[(int) r[1]] == bib && r[3] >= least && r[5] != Due.LOST) own.add(r);
        own.sort(Comparator.comparingLong((long[] r) -> r[5]).thenComparingLong(r -> r[4]));
        List<List<long[]>> passes = new ArrayList<>();
        for (int i = 0; i < own.size(); i++) {
            if (i == 0 || own.get(i)[5] - own.get(i - 1)[5] > gap) passes.add(new ArrayList<>());
            passes.get(passes.size() - 1).add(own.get(i));
        }
        Due.due("P44 at random", x.passes(1, bib), passes.size());
        for (int i = 0; i < passes.size(); i++) {
            List<long[]> p = passes.get(i);
            long[] chosen = p.get(0);
            if (rule == 2) chosen = p.get((p.size() - 1) / 2);
            if (rule == 1) for (long[] r : p) if (r[3] > chosen[3]) chosen = r;
            Due.due("P45 at random", x.pass(1, bib, i), chosen[5]);
        }
    }
}
