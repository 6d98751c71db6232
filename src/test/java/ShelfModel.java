import java.lang.reflect.Array;
import java.math.BigDecimal;
import java.math.BigInteger;
import java.math.RoundingMode;
import java.util.Arrays;
import java.util.LinkedHashSet;
import java.util.Set;

/**
 * Parts 1 and 2 of the document as Java itself does them: rows are Java's own arrays, kinds are classes and faces
 * interfaces, and the FAULTS are what the machine throws.
 */
final class ShelfModel {
    // ---- kinds, with fields that are 0 while one is made

    interface Rolls {
        default int turns() {
            return 3;
        }

        default int reach() {
            return 10 + 2 * turns();
        }
    }

    interface Sees {
        int sight();

        default int glance() {
            return 9 + 2 * sight();
        }
    }

    static class Member {
        final int number;

        Member(int number) {
            this.number = number;
        }
    }

    static class Entrant extends Member {
        short year;
        char bib;
        byte chip;
        boolean paid;
        int leg;
        long time;
        float pace;
        double best;
        Entrant next;
        Entrant rival;
        int born;

        Entrant(int number) {
            super(number);
            try {
                born = load();
            } catch (NullPointerException e) {
                born = 1;
            }
        }

        int load() {
            return 40 + number;
        }
    }

    static class Runner extends Entrant {
        Runner(int number) {
            super(number);
        }

        @Override
        int load() {
            return 2 * super.load() + leg;
        }
    }

    static final class Elite extends Runner implements Sees {
        int star = 2;

        Elite(int number) {
            super(number);
        }

        @Override
        public int sight() {
            return chip + star;
        }

        @Override
        int load() {
            return 3 * super.load() - glance();
        }
    }

    static final class Pair extends Entrant {
        Pair(int number) {
            super(number);
        }

        @Override
        int load() {
            return super.load() + next.year;
        }
    }

    static final class Wheel extends Entrant implements Rolls {
        int speed = 5;

        Wheel(int number) {
            super(number);
        }

        @Override
        public int turns() {
            return number % 5 + speed;
        }

        @Override
        int load() {
            return reach() + 7 + speed;
        }
    }

    static class Sensor extends Member {
        Sensor(int number) {
            super(number);
        }

        int duty() {
            return 100;
        }
    }

    static class Mat extends Sensor {
        Mat(int number) {
            super(number);
        }

        @Override
        int duty() {
            return super.duty() + number;
        }
    }

    static final class Beam extends Mat implements Rolls {
        Beam(int number) {
            super(number);
        }

        @Override
        int duty() {
            return 2 * super.duty() + reach();
        }
    }

    static final class Camera extends Sensor implements Sees {
        Camera(int number) {
            super(number);
        }

        @Override
        public int sight() {
            return 20;
        }

        @Override
        int duty() {
            return super.duty() - glance();
        }
    }

    private static final Class<?>[] TYPES = {Object.class, short[].class, int[].class, float[].class, double[].class, char[].class,
        byte[].class, boolean[].class, int[][].class, Entrant.class, Runner.class, Elite.class, Pair.class, Wheel.class, Sensor.class,
        Mat.class, Beam.class, Camera.class, Rolls.class, Sees.class, null};

    final Object[] boxes = new Object[30];
    int rows;
    int grids;
    int members;
    int pens;
    int shifted;
    int fault;

    // ---- refusals

    static final class Refusal extends RuntimeException {
        private static final long serialVersionUID = 1;
        final int answer;

        Refusal(int answer) {
            super(null, null, false, false);
            this.answer = answer;
        }
    }

    private static void refuse(boolean when, int answer) {
        if (when) throw new Refusal(answer);
    }

    private static void known(int... all) {
        for (int box : all) refuse(box < 0 || box > 29, Due.UNKNOWN);
    }

    private static void inside(boolean holds) {
        refuse(!holds, Due.OUTSIDE);
    }

    /** What a call answers: what it returns, a refusal, or the FAULT by which the machine stopped it. */
    long answer(String name, long[] a, boolean isLong) {
        try {
            return call(name, a);
        } catch (Refusal e) {
            return isLong ? Due.LOST : e.answer;
        } catch (RuntimeException e) {
            fault = faultOf(e);
            return isLong ? Due.LOST : -10 - fault;
        }
    }

    private static int faultOf(RuntimeException e) {
        if (e instanceof NullPointerException) return 1;
        if (e instanceof ClassCastException) return 2;
        if (e instanceof IndexOutOfBoundsException) return 3;
        if (e instanceof ArrayStoreException) return 4;
        if (e instanceof NegativeArraySizeException) return 5;
        if (e instanceof ArithmeticException) return 6;
        throw e;
    }

    private long call(String name, long[] a) {
        int[] i = new int[a.length];
        for (int k = 0; k < i.length; k++) i[k] = (int) a[k];
        switch (name) {
            case "row": return row(i[0], i[1], i[2]);
            case "put": return put(i[0], i[1], i[2], a[3]);
            case "get": return get(i[0], i[1], i[2]);
            case "size": return size(i[0], i[1]);
            case "grid": return grid(i[0], i[1], i[2]);
            case "split": return split(i[0], i[1], i[2]);
            case "setSplit": return setSplit(i[0], i[1], i[2], i[3]);
            case "stepSplit": return stepSplit(i[0], i[1], i[2], a[3] != 0);
            case "give": return give(i[0], i[1], i[2]);
            case "take": return take(i[0], i[1], i[2]);
            case "hold": return hold(i[0], i[1]);
            case "is": return is(i[0], i[1]);
            case "alike": return alike(i[0], i[1]);
            case "copy": return copy(i[0], i[1], a[2] != 0);
            case "shift": return shift(i[0], i[1], i[2], i[3], i[4]);
            case "member": return member(i[0], i[1]);
            case "says": return says(i[0], i[1]);
            case "set": return set(i[0], i[1], a[2]);
            case "field": return field(i[0], i[1]);
            case "step": return step(i[0], i[1], i[2]);
            case "link": return link(i[0], i[1], i[2]);
            case "team": return team(i[0]);
            case "pen": return pen(i[0], i[1], i[2]);
            case "lead": return lead(i[0], i[1], i[2]);
            case "out": return out(i[0], i[1], i[2]);
            case "asked": return asked(i[0], i[1], i[2]);
            case "whole": return whole(i[0], a[1], a[2]);
            case "gap": return gap(i[0], i[1]);
            case "test": return test(i[0], a[1], a[2], i[3]);
            case "ranked": return ranked(i[0], i[1]);
            case "told": return told(i[0]);
            default: throw new IllegalArgumentException(name);
        }
    }

    // ---- the shelf

    private static Object array(int type, int n) {
        switch (type) {
            case 1: return new short[n];
            case 2: return new int[n];
            case 3: return new float[n];
            case 4: return new double[n];
            case 5: return new char[n];
            case 6: return new byte[n];
            default: return new boolean[n];
        }
    }

    private static boolean isPen(Object o) {
        return o instanceof Entrant[] || o instanceof Rolls[] || o instanceof Sees[];
    }

    /** The TYPE by which size() may ask it, of others 1. */
    static int typeOf(Object o) {
        if (isPen(o)) return 20;
        for (int type = 1; type <= 8; type++) if (TYPES[type].isInstance(o)) return type;
        return 1;
    }

    private static Object[] penOf(Object o) {
        if (o != null && !isPen(o)) throw new ClassCastException();
        return (Object[]) o;
    }

    private int row(int box, int type, int n) {
        known(box);
        inside(type >= 1 && type <= 7 && n <= 20);
        refuse(rows >= 300, Due.FULL);
        boxes[box] = array(type, n);
        rows++;
        return 1;
    }

    private int put(int box, int type, int i, long v) {
        known(box);
        inside(type >= 1 && type <= 7);
        Object o = boxes[box];
        switch (type) {
            case 1: ((short[]) o)[i] = (short) v; break;
            case 2: ((int[]) o)[i] = (int) v; break;
            case 3: ((float[]) o)[i] = (float) Double.longBitsToDouble(v); break;
            case 4: ((double[]) o)[i] = Double.longBitsToDouble(v); break;
            case 5: ((char[]) o)[i] = (char) v; break;
            case 6: ((byte[]) o)[i] = (byte) v; break;
            default: ((boolean[]) o)[i] = v != 0;
        }
        return get(box, type, i) == v ? 1 : 2;
    }

    private long get(int box, int type, int i) {
        known(box);
        inside(type >= 1 && type <= 7);
        Object o = boxes[box];
        switch (type) {
            case 1: return ((short[]) o)[i];
            case 2: return ((int[]) o)[i];
            case 3: return Double.doubleToLongBits(((float[]) o)[i]);
            case 4: return Double.doubleToLongBits(((double[]) o)[i]);
            case 5: return ((char[]) o)[i];
            case 6: return ((byte[]) o)[i];
            default: return ((boolean[]) o)[i] ? 1 : 0;
        }
    }

    private int size(int box, int type) {
        known(box);
        inside(type >= 1 && type <= 8 || type == 20);
        if (type == 20) return penOf(boxes[box]).length;
        Object o = TYPES[type].cast(boxes[box]);
        if (o == null) throw new NullPointerException();
        return Array.getLength(o);
    }

    private int grid(int box, int places, int n) {
        known(box);
        inside(places <= 8 && n <= 12);
        int more = places < 0 || n < 0 ? 0 : places;
        refuse(grids >= 30 || rows + more > 300, Due.FULL);
        boxes[box] = n == -1 ? new int[places][] : new int[places][n];
        grids++;
        rows += more;
        return 1;
    }

    private long split(int box, int i, int j) {
        known(box);
        return ((int[][]) boxes[box])[i][j];
    }

    private int setSplit(int box, int i, int j, int v) {
        known(box);
        ((int[][]) boxes[box])[i][j] = v;
        return 1;
    }

    private long stepSplit(int box, int i, int j, boolean behind) {
        known(box);
        int[][] grid = (int[][]) boxes[box];
        return behind ? ++grid[i][j] : grid[i][j]++;
    }

    private int give(int box, int i, int from) {
        known(box, from);
        Object[] grid = (int[][]) boxes[box];
        grid[i] = boxes[from];
        return 1;
    }

    private int take(int box, int from, int i) {
        known(box, from);
        boxes[box] = ((int[][]) boxes[from])[i];
        return 1;
    }

    private int hold(int box, int from) {
        known(box, from);
        boxes[box] = boxes[from];
        return 1;
    }

    private int is(int box, int type) {
        known(box);
        inside(type >= 0 && type <= 20);
        return (type == 20 ? isPen(boxes[box]) : TYPES[type].isInstance(boxes[box])) ? 1 : 0;
    }

    private int alike(int a, int b) {
        known(a, b);
        return like(boxes[a], boxes[b]) ? 1 : 0;
    }

    private static boolean like(Object a, Object b) {
        if (a == null || b == null) return a == b;
        if (a.getClass() != b.getClass()) return false;
        if (a instanceof Entrant p) return likeEntrants(p, (Entrant) b);
        if (a instanceof Sensor) return true;
        if (a instanceof int[][] p) return Arrays.deepEquals(p, (int[][]) b);
        if (isPen(a)) return sameMembers((Object[]) a, (Object[]) b);
        // as boxed numbers floats and doubles are like by their bits
        return Arrays.deepEquals(new Object[] {a}, new Object[] {b});
    }

    private static boolean sameMembers(Object[] a, Object[] b) {
        if (a.length != b.length) return false;
        for (int i = 0; i < a.length; i++) if (a[i] != b[i]) return false;
        return true;
    }

    private static boolean likeEntrants(Entrant a, Entrant b) {
        return a.year == b.year && a.bib == b.bib && a.chip == b.chip && a.paid == b.paid && a.leg == b.leg && a.time == b.time
            && Float.compare(a.pace, b.pace) == 0 && Double.compare(a.best, b.best) == 0 && a.next == b.next && a.rival == b.rival;
    }

    private int copy(int box, int from, boolean deep) {
        known(box, from);
        Object o = boxes[from];
        if (o instanceof Member m) {
            boxes[box] = copyOf(m);
        } else if (o instanceof int[][] grid) {
            int[][] made = grid.clone();
            int more = 0;
            for (int i = 0; deep && i < made.length; i++) {
                if (grid[i] == null) continue;
                made[i] = grid[i].clone();
                more++;
            }
            refuse(grids >= 30 || rows + more > 300, Due.FULL);
            grids++;
            rows += more;
            boxes[box] = made;
        } else if (isPen(o)) {
            refuse(pens >= 20, Due.FULL);
            pens++;
            boxes[box] = ((Object[]) o).clone();
        } else if (o == null) {
            boxes[box] = null;
        } else {
            refuse(rows >= 300, Due.FULL);
            rows++;
            int n = Array.getLength(o);
            Object made = Array.newInstance(o.getClass().getComponentType(), n);
            System.arraycopy(o, 0, made, 0, n);
            boxes[box] = made;
        }
        return 1;
    }

    private Member copyOf(Member m) {
        refuse(members >= 40, Due.FULL);
        Member made = made(Arrays.asList(TYPES).indexOf(m.getClass()));
        if (!(m instanceof Entrant a)) return made;
        Entrant b = (Entrant) made;
        b.year = a.year;
        b.bib = a.bib;
        b.chip = a.chip;
        b.paid = a.paid;
        b.leg = a.leg;
        b.time = a.time;
        b.pace = a.pace;
        b.best = a.best;
        b.next = a.next;
        b.rival = a.rival;
        return b;
    }

    private int shift(int from, int i, int to, int k, int n) {
        known(from, to);
        Object source = boxes[from];
        Object target = boxes[to];
        shifted = 0;
        try {
            System.arraycopy(source, i, target, k, n);
        } catch (ArrayStoreException e) {
            boolean began = source instanceof Object[] && target instanceof Object[];
            Class<?> taken = began ? target.getClass().getComponentType() : null;
            while (began && (((Object[]) source)[i + shifted] == null || taken.isInstance(((Object[]) source)[i + shifted]))) shifted++;
            throw e;
        }
        shifted = n;
        return n;
    }

    // ---- members and pens

    private Member made(int type) {
        int number = members++;
        switch (type) {
            case 10: return new Runner(number);
            case 11: return new Elite(number);
            case 12: return new Pair(number);
            case 13: return new Wheel(number);
            case 15: return new Mat(number);
            case 16: return new Beam(number);
            default: return new Camera(number);
        }
    }

    private int member(int box, int type) {
        known(box);
        inside(type >= 10 && type <= 13 || type >= 15 && type <= 17);
        refuse(members >= 40, Due.FULL);
        Member m = made(type);
        boxes[box] = m;
        return m.number;
    }

    private static int said(Object o, int ask) {
        switch (ask) {
            case 0: return ((Entrant) o).load();
            case 1: return ((Rolls) o).reach();
            case 2: return ((Sensor) o).duty();
            case 3: return ((Sees) o).glance();
            default: return ((Entrant) o).born;
        }
    }

    private int says(int box, int ask) {
        known(box);
        inside(ask >= 0 && ask <= 4);
        return said(boxes[box], ask);
    }

    private int set(int box, int f, long v) {
        known(box);
        inside(f >= 0 && f <= 7);
        Entrant e = (Entrant) boxes[box];
        switch (f) {
            case 0: e.year = (short) v; break;
            case 1: e.bib = (char) v; break;
            case 2: e.chip = (byte) v; break;
            case 3: e.paid = v != 0; break;
            case 4: e.leg = (int) v; break;
            case 5: e.time = v; break;
            case 6: e.pace = (float) Double.longBitsToDouble(v); break;
            default: e.best = Double.longBitsToDouble(v);
        }
        return field(box, f) == v ? 1 : 2;
    }

    private long field(int box, int f) {
        known(box);
        inside(f >= 0 && f <= 9);
        Entrant e = (Entrant) boxes[box];
        switch (f) {
            case 0: return e.year;
            case 1: return e.bib;
            case 2: return e.chip;
            case 3: return e.paid ? 1 : 0;
            case 4: return e.leg;
            case 5: return e.time;
            case 6: return Double.doubleToLongBits(e.pace);
            case 7: return Double.doubleToLongBits(e.best);
            case 8: return e.next == null ? -1 : e.next.number;
            default: return e.rival == null ? -1 : e.rival.number;
        }
    }

    private long step(int box, int f, int how) {
        known(box);
        inside(f >= 0 && f <= 5 && f != 3 && how >= 0 && how <= 3);
        Entrant e = (Entrant) boxes[box];
        switch (10 * f + how) {
            case 0: return e.year++;
            case 1: return ++e.year;
            case 2: return e.year--;
            case 3: return --e.year;
            case 10: return e.bib++;
            case 11: return ++e.bib;
            case 12: return e.bib--;
            case 13: return --e.bib;
            case 20: return e.chip++;
            case 21: return ++e.chip;
            case 22: return e.chip--;
            case 23: return --e.chip;
            case 40: return e.leg++;
            case 41: return ++e.leg;
            case 42: return e.leg--;
            case 43: return --e.leg;
            case 50: return e.time++;
            case 51: return ++e.time;
            case 52: return e.time--;
            default: return --e.time;
        }
    }

    private int link(int box, int which, int other) {
        known(box, other);
        inside(which == 8 || which == 9);
        Entrant e = (Entrant) boxes[box];
        Entrant linked = (Entrant) boxes[other];
        if (which == 8) e.next = linked;
        else e.rival = linked;
        return 1;
    }

    private int team(int box) {
        known(box);
        Entrant e = (Entrant) boxes[box];
        if (e == null) throw new NullPointerException();
        Set<Entrant> met = new LinkedHashSet<>();
        for (; e != null; e = e.next) {
            if (!met.add(e)) return 100 + e.number;
        }
        return met.size();
    }

    private int pen(int box, int type, int n) {
        known(box);
        inside((type >= 9 && type <= 13 || type == 18 || type == 19) && n <= 12);
        refuse(pens >= 20, Due.FULL);
        boxes[box] = Array.newInstance(TYPES[type], n);
        pens++;
        return 1;
    }

    private int lead(int box, int i, int who) {
        known(box, who);
        penOf(boxes[box])[i] = boxes[who];
        return 1;
    }

    private int out(int box, int i, int type) {
        known(box);
        inside(type >= 9 && type <= 19);
        Object o = TYPES[type].cast(penOf(boxes[box])[i]);
        return o == null ? Due.NONE : ((Member) o).number;
    }

    private int asked(int box, int i, int ask) {
        known(box);
        inside(ask >= 0 && ask <= 4);
        return said(penOf(boxes[box])[i], ask);
    }

    // ---- whole and real times

    private static long whole(int op, long a, long b) {
        inside(op >= 0 && op <= 5);
        switch (op) {
            case 0: return a - b;
            case 1: return a / b;
            case 2: return a % b;
            case 3: return BigInteger.valueOf((int) a).add(BigInteger.valueOf((int) b)).min(BigInteger.valueOf(Integer.MAX_VALUE))
                .max(BigInteger.valueOf(Integer.MIN_VALUE)).longValueExact();
            case 4: return Math.floorMod(b - a, 86400000L);
            default:
                BigInteger above = BigInteger.valueOf((int) a).multiply(BigInteger.valueOf((int) (b >> 32)));
                return new BigDecimal(above).divide(new BigDecimal((int) b), 0, RoundingMode.HALF_EVEN).longValueExact();
        }
    }

    private double[] reals(Object o) {
        if (o == null) throw new NullPointerException();
        if (o instanceof double[] d) return d;
        float[] floats = (float[]) o;
        double[] all = new double[floats.length];
        for (int i = 0; i < all.length; i++) all[i] = floats[i];
        return all;
    }

    private static Integer[] sorted(double[] items) {
        Integer[] order = new Integer[items.length];
        for (int i = 0; i < order.length; i++) order[i] = i;
        Arrays.sort(order, (p, q) -> {
            double a = items[p];
            double b = items[q];
            if (a != a || b != b) return Boolean.compare(a != a, b != b);
            return a < b ? -1 : a > b ? 1 : 0;
        });
        return order;
    }

    private long gap(int box, int op) {
        known(box);
        inside(op >= 0 && op <= 6);
        double[] items = reals(boxes[box]);
        Integer[] order = sorted(items);
        double sum = 0.0;
        int n = 0;
        int greatest = -1;
        for (int i = 0; i < items.length; i++) {
            if (items[i] != items[i]) continue;
            sum += items[i];
            n++;
            if (greatest < 0 || items[i] > items[greatest]) greatest = i;
        }
        if (op == 5) return items.length - n;
        if (op == 6) return (long) sum / n;
        if (n == 0) return Due.LOST;
        double least = items[order[0]];
        double[] told = {least, items[greatest], items[order[(n - 1) / 2]], sum / n, items[greatest] - least};
        return Double.doubleToLongBits(told[op]);
    }

    private static int test(int op, long x, long y, int how) {
        inside(op >= 0 && op <= 5 && how >= 0 && how <= 3);
        double a = Double.longBitsToDouble(x);
        double b = Double.longBitsToDouble(y);
        if (how >= 2) {
            a = (float) a;
            b = (float) b;
        }
        boolean[] holds = {a < b, a <= b, a > b, a >= b, a == b, a != b};
        return holds[op] == (how % 2 == 0) ? 1 : 0;
    }

    private int ranked(int box, int from) {
        known(box, from);
        refuse(rows >= 300, Due.FULL);
        Integer[] order = sorted(reals(boxes[from]));
        int[] places = new int[order.length];
        for (int i = 0; i < places.length; i++) places[i] = order[i];
        boxes[box] = places;
        rows++;
        return 1;
    }

    private int told(int what) {
        inside(what >= 0 && what <= 10);
        int[] all = {rows, grids, members, pens, shifted, 0, 0, 0, 0, 0, 0};
        return all[what];
    }
}
