import java.util.ArrayList;
import java.util.Arrays;
import java.util.Collections;
import java.util.List;
import java.util.Random;

/** Promises 46 to 60: the course, sources, penalties, results. */
public final class CourseTest {
    private static final int LATEST = 1000000000;
    private static RaceHouse x;

    public static void main(String[] args) {
        places();
        fits();
        theFirstEight();
        starts();
        joins();
        times();
        hands();
        handsAtZero();
        eachBibAndPlaceAlone();
        ranksOfSources();
        penalties();
        states();
        results();
        ranks();
        teams();
        fitsAtRandom();
        resultsAtRandom();
        Due.end();
    }

    /** A house whose clocks are right, in which CHIP i is BIB i's and each READ its own PASS. */
    private static void fresh() {
        x = new RaceHouse();
        for (int mat = 0; mat < 6; mat++) x.mark(mat, 0, 0);
        for (int bib = 0; bib < 20; bib++) x.chip(bib, bib);
        x.rules(0, 0, 0);
    }

    private static void reads(int mat, int bib, int... moments) {
        for (int m : moments) x.read(mat, bib, m, 50);
    }

    private static void places() {
        x = new RaceHouse();
        Due.due("P46 mat", x.place(6, -1), Due.UNKNOWN);
        Due.due("P46 mat -1", x.place(-1, 0), Due.UNKNOWN);
        Due.due("P46 least -1", x.place(0, -1), Due.OUTSIDE);
        Due.due("P46 least beyond", x.place(0, 10000001), Due.OUTSIDE);
        for (int i = 0; i < 8; i++) Due.due("P46 place", x.place(i % 6, i % 2 == 0 ? 0 : 10000000), i);
        Due.due("P46 the ninth", x.place(0, 0), Due.FULL);
        Due.due("P68 places", x.told(8), 8);
    }

    private static void fit(String what, int bib, long... want) {
        int uses = 0;
        for (long t : want) if (t != Due.LOST) uses++;
        Due.due("P47 " + what, x.fit(bib), uses);
        for (int p = 0; p < want.length; p++) Due.due("P48 " + what + ", place " + p, x.used(bib, p), want[p]);
    }

    private static void fits() {
        long none = Due.LOST;
        fresh();
        Due.due("P47 no places", x.fit(0), 0);
        Due.due("P48 no place", x.used(0, 0), none);
        x.place(0, 700);
        x.place(1, 100);
        x.place(0, 200);
        fit("no reads", 0, none, none, none);
        reads(0, 0, 1000);
        fit("one that serves twice, apart from the leasts", 0, 1000, none, none);
        reads(1, 0, 1099);
        fit("not far enough", 0, 1000, none, none);
        reads(1, 0, 1100);
        fit("just far enough", 0, 1000, 1100, none);
        reads(0, 0, 1299);
        fit("the last too near", 0, 1000, 1100, none);
        reads(0, 0, 1300);
        fit("all three", 0, 1000, 1100, 1300);
        reads(0, 0, 900);
        fit("an earlier one", 0, 900, 1099, 1299);
        reads(0, 1, 500);
        reads(1, 1, 550);
        reads(0, 1, 650);
        fit("a place passed over adds its least", 1, 500, none, none);
        reads(0, 1, 800);
        fit("a place passed over", 1, 500, none, 800);
        reads(1, 2, 100);
        reads(0, 2, 300, 350);
        fit("not the first place", 2, none, 100, 300);
        Due.due("P48 asked ahead of fit()", x.used(0, 0), 900);
        Due.due("P48 of one bib, then another", x.used(1, 0), 500);
        fresh();
        for (int i = 0; i < 4; i++) x.place(2, 0);
        reads(2, 3, 70, 80);
        fit("one at several places", 3, 70, 70, 70, 70);
        Due.due("P47 bib", x.fit(20), Due.UNKNOWN);
        Due.due("P47 bib -1", x.fit(-1), Due.UNKNOWN);
        Due.due("P48 bib", x.used(20, 0), none);
        Due.due("P48 place", x.used(3, 4), none);
        Due.due("P48 place -1", x.used(3, -1), none);
    }

    private static void theFirstEight() {
        fresh();
        x.place(0, 0);
        x.place(1, 0);
        reads(0, 0, 50, 60);
        reads(1, 0, 1, 2, 3, 4, 5, 6, 7, 8, 55);
        fit("the ninth pass is not seen", 0, 50, Due.LOST);
        x.rules(1, 0, 0);
        fit("they are one pass now", 0, 50, 55);
        x.rules(0, 51, 0);
        fit("all weak", 0, Due.LOST, Due.LOST);
    }

    private static void starts() {
        fresh();
        Due.due("P51 none", x.start(0), Due.LOST);
        Due.due("P49 gun", x.gun(0, 100), 1);
        Due.due("P51 the gun", x.start(0), 100);
        Due.due("P49 the latest", x.gun(0, 90), 1);
        Due.due("P51 the latest gun", x.start(0), 90);
        x.place(1, 0);
        x.place(2, 0);
        reads(2, 0, 300);
        Due.due("P51 not of place 1", x.start(0), 90);
        reads(1, 0, 200);
        Due.due("P51 the fit", x.start(0), 200);
        Due.due("P49 called back", x.gun(0, -1), 1);
        Due.due("P51 the fit still", x.start(0), 200);
        Due.due("P51 none any more", x.start(1), Due.LOST);
        Due.due("P49 at 0", x.gun(0, 0), 1);
        Due.due("P51 at 0", x.start(1), 0);
        Due.due("P49 wave", x.gun(4, -2), Due.UNKNOWN);
        Due.due("P49 wave -1", x.gun(-1, 0), Due.UNKNOWN);
        Due.due("P49 t -2", x.gun(0, -2), Due.OUTSIDE);
        Due.due("P49 t beyond", x.gun(0, LATEST + 1), Due.OUTSIDE);
        Due.due("P49 t at the end", x.gun(3, LATEST), 1);
        Due.due("P51 bib", x.start(20), Due.LOST);
        Due.due("P51 bib -1", x.start(-1), Due.LOST);
    }

    private static void joins() {
        x = new RaceHouse();
        x.gun(3, 7);
        Due.due("P50 join", x.join(19, 3, 5), 1);
        Due.due("P51 by its wave", x.start(19), 7);
        Due.due("P51 another is in wave 0", x.start(18), Due.LOST);
        Due.due("P50 bib", x.join(20, 0, 6), Due.UNKNOWN);
        Due.due("P50 bib -1", x.join(-1, 0, 0), Due.UNKNOWN);
        Due.due("P50 wave", x.join(0, 4, 6), Due.UNKNOWN);
        Due.due("P50 wave -1", x.join(0, -1, 0), Due.UNKNOWN);
        Due.due("P50 club", x.join(19, 0, 6), Due.OUTSIDE);
        Due.due("P50 club -1", x.join(19, 0, -1), Due.OUTSIDE);
        Due.due("P51 unchanged", x.start(19), 7);
    }

    private static void times() {
        x = new RaceHouse();
        x.place(0, 0);
        x.place(1, 0);
        Due.due("P52 bib", x.time(2, 20, 0, -2), Due.UNKNOWN);
        Due.due("P52 place", x.time(2, 0, 2, -2), Due.UNKNOWN);
        Due.due("P52 place -1", x.time(0, 0, -1, 0), Due.UNKNOWN);
        for (int source : new int[] {-1, 2, 5}) Due.due("P52 source " + source, x.time(source, 0, 0, 5), Due.OUTSIDE);
        for (int source : new int[] {0, 1, 3, 4}) {
            Due.due("P52 t -2", x.time(source, 0, 0, -2), Due.OUTSIDE);
            Due.due("P52 t beyond", x.time(source, 0, 0, LATEST + 1), Due.OUTSIDE);
            Due.due("P52 time", x.time(source, 0, 0, LATEST), 1);
            Due.due("P53 merged", x.merged(0, 0), LATEST);
            Due.due("P54 source", x.source(0, 0), source);
            Due.due("P53 another place", x.merged(0, 1), Due.LOST);
            Due.due("P53 another bib", x.merged(1, 0), Due.LOST);
            Due.due("P52 0", x.time(source, 0, 1, 0), 1);
            Due.due("P53 0", x.merged(0, 1), 0);
            Due.due("P52 none any more", x.time(source, 0, 1, -1), 1);
            Due.due("P52 none any more", x.time(source, 0, 0, -1), 1);
            Due.due("P53 none", x.merged(0, 0), Due.LOST);
            Due.due("P54 none", x.source(0, 0), Due.NONE);
        }
        Due.due("P53 bib", x.merged(20, 0), Due.LOST);
        Due.due("P53 place", x.merged(0, 2), Due.LOST);
        Due.due("P54 bib", x.source(-1, 0), Due.UNKNOWN);
        Due.due("P54 place", x.source(0, 2), Due.UNKNOWN);
    }

    private static void hands() {
        int[][] orders = {{10, 20, 30}, {10, 30, 20}, {20, 10, 30}, {20, 30, 10}, {30, 10, 20}, {30, 20, 10}};
        for (int[] o : orders) {
            x = new RaceHouse();
            x.place(0, 0);
            for (int t : o) Due.due("P52 hand", x.time(4, 0, 0, t), 1);
            Due.due("P53 of three the middle one", x.merged(0, 0), 20);
            Due.due("P52 a fourth", x.time(4, 0, 0, 5), Due.FULL);
            Due.due("P53 unchanged", x.merged(0, 0), 20);
            Due.due("P52 a fourth elsewhere", x.time(4, 1, 0, 5), 1);
            Due.due("P52 none any more", x.time(4, 0, 0, -1), 1);
            Due.due("P53 none", x.merged(0, 0), Due.LOST);
            x.time(4, 0, 0, o[0]);
            Due.due("P53 one alone", x.merged(0, 0), o[0]);
            x.time(4, 0, 0, o[1]);
            Due.due("P53 of two the later", x.merged(0, 0), Math.max(o[0], o[1]));
        }
    }

    private static void handsAtZero() {
        x = new RaceHouse();
        x.place(0, 0);
        x.time(4, 0, 0, 0);
        Due.due("P53 at 0", x.merged(0, 0), 0);
        x.time(4, 0, 0, 5);
        Due.due("P53 0 and 5", x.merged(0, 0), 5);
        x.time(4, 0, 0, 0);
        Due.due("P53 0, 5 and 0", x.merged(0, 0), 0);
        Due.due("P52 a fourth at 0", x.time(4, 0, 0, 0), Due.FULL);
        x.time(4, 1, 0, 7);
        x.time(4, 1, 0, 5);
        x.time(4, 1, 0, 0);
        Due.due("P53 7, 5 and 0", x.merged(1, 0), 5);
    }

    private static void eachBibAndPlaceAlone() {
        for (int source : new int[] {0, 1, 3, 4}) {
            x = new RaceHouse();
            for (int place = 0; place < 8; place++) x.place(0, 0);
            for (int bib = 0; bib < 20; bib++) for (int place = 0; place < 8; place++) x.time(source, bib, place, 100 * bib + place);
            for (int bib = 0; bib < 20; bib++) {
                for (int place = 0; place < 8; place++) Due.due("P53 its own", x.merged(bib, place), 100 * bib + place);
            }
        }
    }

    private static void ranksOfSources() {
        fresh();
        x.place(0, 0);
        int[] times = {50, 40, 30, 20, 10};
        for (int source = 4; source >= 0; source--) {
            if (source == 2) reads(0, 0, 30);
            else x.time(source, 0, 0, times[source]);
            Due.due("P54 the first source", x.source(0, 0), source);
            Due.due("P53 its time", x.merged(0, 0), times[source]);
        }
        for (int source : new int[] {0, 1}) {
            x.time(source, 0, 0, -1);
            Due.due("P54 the next", x.source(0, 0), source + 1);
        }
        x.chip(0, -1);
        Due.due("P54 the chip is nobody's", x.source(0, 0), 3);
        x.time(3, 0, 0, -1);
        Due.due("P54 hands", x.source(0, 0), 4);
    }

    private static void penalties() {
        x = new RaceHouse();
        Due.due("P55 bib", x.penalty(20, 5, 0), Due.UNKNOWN);
        Due.due("P55 article 5", x.penalty(0, 5, 0), Due.OUTSIDE);
        Due.due("P55 article -1", x.penalty(0, -1, 0), Due.OUTSIDE);
        Due.due("P55 ms -1", x.penalty(0, 0, -1), Due.OUTSIDE);
        Due.due("P55 ms beyond", x.penalty(0, 0, 1000001), Due.OUTSIDE);
        Due.due("P55 ms at the end", x.penalty(0, 0, 1000000), 0);
        Due.due("P55 ms 0", x.penalty(0, 0, 0), 1);
        for (int i = 2; i < 60; i++) Due.due("P55 others' ms", x.penalty(i % 20, 1 + i % 4, i % 2 == 0 ? -5 : 2000000), i);
        Due.due("P55 full", x.penalty(0, 1, 0), Due.FULL);
        Due.due("P68 penalties", x.told(9), 60);
        x.place(0, 0);
        x.gun(0, 0);
        x.time(0, 0, 0, 5);
        Due.due("P57 where it is full", x.state(0), 1);
        Due.due("P58 where it is full", x.result(0), 1000005);
        Due.due("P56 back", x.back(59), 1);
        Due.due("P56 it was", x.back(59), 0);
        Due.due("P56 beyond", x.back(60), Due.UNKNOWN);
        Due.due("P56 -1", x.back(-1), Due.UNKNOWN);
        Due.due("P55 still full", x.penalty(0, 1, 0), Due.FULL);
        Due.due("P68 still", x.told(9), 60);
    }

    private static void states() {
        fresh();
        Due.due("P57 bib", x.state(20), Due.UNKNOWN);
        Due.due("P57 bib -1", x.state(-1), Due.UNKNOWN);
        x.gun(0, 10);
        Due.due("P57 no places", x.state(0), 0);
        x.place(0, 0);
        x.place(1, 0);
        Due.due("P57 no time", x.state(0), 0);
        x.time(0, 0, 0, 50);
        Due.due("P57 not at the last place", x.state(0), 0);
        x.time(0, 0, 1, 90);
        Due.due("P57 finished", x.state(0), 1);
        x.gun(0, -1);
        Due.due("P57 no start: a person's time at place 0 is none", x.state(0), 0);
        x.gun(0, 10);
        int a = x.penalty(0, 3, 0);
        Due.due("P57 not started", x.state(0), 2);
        int b = x.penalty(0, 4, 0);
        Due.due("P57 the latest: not finished", x.state(0), 3);
        int c = x.penalty(0, 3, 0);
        Due.due("P57 the latest: not started", x.state(0), 2);
        int d = x.penalty(0, 2, 0);
        Due.due("P57 disqualified", x.state(0), 4);
        x.penalty(0, 4, 0);
        Due.due("P57 still disqualified", x.state(0), 4);
        x.back(d);
        x.back(d + 1);
        Due.due("P57 taken back", x.state(0), 2);
        x.back(c);
        Due.due("P57 the one ahead", x.state(0), 3);
        x.back(b);
        Due.due("P57 the first", x.state(0), 2);
        x.back(a);
        Due.due("P57 none stands", x.state(0), 1);
        x.penalty(0, 0, 5);
        x.penalty(0, 1, 5);
        Due.due("P57 those do not matter", x.state(0), 1);
        Due.due("P57 of another", x.state(1), 0);
        x.place(1, 0);
        Due.due("P57 another last place", x.state(0), 0);
    }

    private static void results() {
        fresh();
        x.place(0, 0);
        x.place(1, 0);
        x.gun(0, 100);
        x.time(3, 0, 1, 1100);
        Due.due("P58 by the gun", x.result(0), 1000);
        reads(0, 0, 300);
        Due.due("P58 by the fit", x.result(0), 800);
        x.penalty(0, 0, 7);
        x.penalty(0, 0, 30);
        x.penalty(1, 0, 9999);
        Due.due("P58 added", x.result(0), 837);
        x.back(0);
        Due.due("P58 taken back", x.result(0), 830);
        int first = x.penalty(0, 1, 0);
        x.penalty(0, 1, 0);
        Due.due("P58 warned twice", x.result(0), 830);
        x.penalty(0, 1, 0);
        Due.due("P58 the third", x.result(0), 10830);
        x.penalty(0, 1, 0);
        x.penalty(0, 1, 0);
        Due.due("P58 the fifth", x.result(0), 10830);
        x.penalty(0, 1, 0);
        Due.due("P58 the sixth", x.result(0), 20830);
        x.back(first);
        Due.due("P58 five stand", x.result(0), 10830);
        int out = x.penalty(0, 2, 0);
        Due.due("P58 disqualified", x.result(0), Due.LOST);
        x.back(out);
        x.time(0, 0, 1, 100);
        Due.due("P58 ahead of the start", x.result(0), -200 + 10030);
        Due.due("P58 no time", x.result(1), Due.LOST);
        Due.due("P58 bib", x.result(20), Due.LOST);
        Due.due("P58 bib -1", x.result(-1), Due.LOST);
    }

    private static void ranks() {
        x = new RaceHouse();
        x.place(0, 0);
        x.gun(0, 0);
        int[] times = {500, 300, 300, 400, 300};
        for (int bib = 0; bib < times.length; bib++) x.time(0, bib, 0, times[bib]);
        int[] want = {5, 1, 1, 4, 1};
        for (int bib = 0; bib < times.length; bib++) Due.due("P59 rank", x.rank(bib), want[bib]);
        Due.due("P59 none", x.rank(5), Due.NONE);
        x.penalty(1, 2, 0);
        Due.due("P59 without one that is out", x.rank(3), 3);
        Due.due("P59 out", x.rank(1), Due.NONE);
        Due.due("P59 bib", x.rank(20), Due.UNKNOWN);
        Due.due("P59 bib -1", x.rank(-1), Due.UNKNOWN);
        for (int bib = 0; bib < 20; bib++) x.time(0, bib, 0, 1000 - bib);
        x.back(0);
        Due.due("P59 the last of all", x.rank(0), 20);
        Due.due("P59 the first of all", x.rank(19), 1);
    }

    private static void teams() {
        x = new RaceHouse();
        x.place(0, 0);
        x.gun(0, 0);
        for (int bib = 0; bib < 20; bib++) x.time(0, bib, 0, 1000 - 7 * bib);
        long all = 0;
        for (int k = 1; k <= 20; k++) {
            all += 1000 - 7 * (20 - k);
            Due.due("P60 best " + k, x.best(0, k), all);
        }
        x.join(19, 0, 3);
        x.join(5, 0, 3);
        Due.due("P60 of a club", x.best(3, 2), 1000 - 7 * 19 + 1000 - 7 * 5);
        Due.due("P60 not so many", x.best(3, 3), Due.LOST);
        Due.due("P60 nor of the others", x.best(0, 19), Due.LOST);
        Due.due("P60 the others", x.best(0, 1), 1000 - 7 * 18);
        x.penalty(19, 3, 0);
        Due.due("P60 without one that did not start", x.best(3, 1), 1000 - 7 * 5);
        Due.due("P60 none of this club", x.best(5, 1), Due.LOST);
        Due.due("P60 club 6", x.best(6, 1), Due.LOST);
        Due.due("P60 club -1", x.best(-1, 1), Due.LOST);
        Due.due("P60 k 0", x.best(0, 0), Due.LOST);
        Due.due("P60 k 21", x.best(0, 21), Due.LOST);
    }

    // ---- at random, beside a search through all FITS

    private static long[] bestFit(int[] mats, int[] leasts, List<List<Long>> passes) {
        long[] best = new long[mats.length];
        Arrays.fill(best, Due.LOST);
        search(mats, leasts, passes, new long[mats.length], 0, best);
        return best;
    }

    private static void search(int[] mats, int[] leasts, List<List<Long>> passes, long[] tried, int place, long[] best) {
        if (place == mats.length) {
            if (isBetter(tried, best)) System.arraycopy(tried, 0, best, 0, tried.length);
            return;
        }
        List<Long> at = passes.get(mats[place]);
        for (int k = -1; k < Math.min(8, at.size()); k++) {
            tried[place] = k < 0 ? Due.LOST : at.get(k);
            boolean fine = true;
            for (int p = 0; p < place && k >= 0; p++) {
                if (tried[p] == Due.LOST) continue;
                long all = 0;
                for (int q = p + 1; q <= place; q++) all += leasts[q];
                if (tried[place] < tried[p] + all) fine = false;
            }
            if (fine) search(mats, leasts, passes, tried, place + 1, best);
        }
    }

    private static boolean isBetter(long[] a, long[] b) {
        int more = 0;
        for (int i = 0; i < a.length; i++) more += (a[i] != Due.LOST ? 1 : 0) - (b[i] != Due.LOST ? 1 : 0);
        if (more != 0) return more > 0;
        for (int i = 0; i < a.length; i++) {
            if (a[i] == b[i]) continue;
            return a[i] != Due.LOST && (b[i] == Due.LOST || a[i] < b[i]);
        }
        return false;
    }

    private static void fitsAtRandom() {
        Random random = new Random(47);
        for (int turn = 0; turn < 4000; turn++) {
            fresh();
            int n = random.nextInt(turn % 10 == 0 ? 9 : 6);
            int kinds = 1 + random.nextInt(4);
            int[] mats = new int[n];
            int[] leasts = new int[n];
            for (int p = 0; p < n; p++) {
                mats[p] = random.nextInt(kinds);
                leasts[p] = random.nextInt(3) == 0 ? 0 : random.nextInt(30);
                x.place(mats[p], leasts[p]);
            }
            List<List<Long>> passes = new ArrayList<>();
            for (int mat = 0; mat < 6; mat++) {
                List<Long> at = new ArrayList<>();
                int count = n > 5 ? random.nextInt(3) : random.nextInt(turn % 7 == 0 ? 11 : 5);
                for (int i = 0; i < count; i++) {
                    long t = random.nextInt(80);
                    if (at.contains(t)) continue;
                    at.add(t);
                    x.read(mat, 4, (int) t, 50);
                }
                Collections.sort(at);
                passes.add(at);
            }
            fit("at random", 4, bestFit(mats, leasts, passes));
            if (n > 0) Due.due("P51 at random", x.start(4), x.used(4, 0));
        }
    }

    private static void resultsAtRandom() {
        Random random = new Random(58);
        for (int turn = 0; turn < 300; turn++) {
            fresh();
            x.place(0, 0);
            x.place(1, 10);
            long[] start = new long[20];
            long[] end = new long[20];
            int[] wave = new int[20];
            int[] club = new int[20];
            int[] guns = {random.nextInt(10), -1, 20, 5};
            for (int w = 0; w < 4; w++) x.gun(w, guns[w]);
            long[] results = new long[20];
            for (int bib = 0; bib < 20; bib++) {
                wave[bib] = random.nextInt(4);
                club[bib] = random.nextInt(6);
                x.join(bib, wave[bib], club[bib]);
                start[bib] = guns[wave[bib]] < 0 ? Due.LOST : guns[wave[bib]];
                end[bib] = Due.LOST;
                if (random.nextInt(3) == 0) reads(0, bib, (int) (start[bib] = random.nextInt(30)));
                if (random.nextInt(3) > 0) x.time(1, bib, 1, (int) (end[bib] = 40 + random.nextInt(12)));
                boolean out = random.nextInt(8) == 0;
                if (out) x.penalty(bib, 2 + random.nextInt(3), 0);
                int ms = random.nextInt(4);
                x.penalty(bib, 0, ms);
                results[bib] = out || start[bib] == Due.LOST || end[bib] == Due.LOST ? Due.LOST : end[bib] - start[bib] + ms;
            }
            for (int bib = 0; bib < 20; bib++) {
                Due.due("P58 at random", x.result(bib), results[bib]);
                int ahead = 0;
                for (long r : results) if (r != Due.LOST && r < results[bib]) ahead++;
                Due.due("P59 at random", x.rank(bib), results[bib] == Due.LOST ? Due.NONE : 1 + ahead);
            }
            for (int c = 0; c < 6; c++) {
                List<Long> own = new ArrayList<>();
                for (int bib = 0; bib < 20; bib++) if (club[bib] == c && results[bib] != Due.LOST) own.add(results[bib]);
                Collections.sort(own);
                long sum = 0;
                for (int k = 1; k <= 6; k++) {
                    if (k <= own.size()) sum += own.get(k - 1);
                    Due.due("P60 at random", x.best(c, k), k <= own.size() ? sum : Due.LOST);
                }
            }
        }
    }
}
