import java.lang.reflect.Method;
import java.util.Arrays;
import java.util.Comparator;
import java.util.Random;

/** Promises 68 and 69, and that no call ever throws, whatever its arguments. */
public final class ToldTest {
    private static RaceHouse x;

    public static void main(String[] args) throws Exception {
        tolds();
        faults();
        wildCalls();
        twoAlike();
        Due.end();
    }

    private static void tolds() {
        x = new RaceHouse();
        x.row(0, 2, 3);
        x.grid(1, 2, 2);
        x.copy(2, 1, true);
        x.row(3, 4, 1);
        x.ranked(4, 3);
        x.member(5, 10);
        x.copy(6, 5, false);
        x.member(7, 16);
        x.pen(8, 9, 4);
        x.shift(0, 0, 0, 1, 2);
        Due.tape(x, "p0p0p0p0");
        x.act();
        Due.tape(x, "l1l2l");
        for (int i = 0; i < 7; i++) x.read(0, 0, 0, 0);
        for (int i = 0; i < 6; i++) x.place(0, 0);
        for (int i = 0; i < 9; i++) x.penalty(0, 1, 0);
        x.back(3);
        for (int i = 0; i < 8; i++) x.mark(0, 0, -1);
        int[] want = {7, 2, 3, 1, 2, 5, 4, 7, 6, 9, 8};
        for (int what = 0; what < want.length; what++) Due.due("P68 told(" + what + ")", x.told(what), want[what]);
        Due.due("P68 11", x.told(11), Due.OUTSIDE);
        Due.due("P68 -1", x.told(-1), Due.OUTSIDE);
    }

    private static void faults() {
        x = new RaceHouse();
        Due.due("P69 none so far", x.fault(), 0);
        x.size(0, 2);
        Due.due("P69 null", x.fault(), 1);
        x.row(0, 1, 1);
        Due.due("P69 stays", x.fault(), 1);
        x.size(0, 2);
        Due.due("P69 cast", x.fault(), 2);
        x.put(0, 1, 1, 1);
        Due.due("P69 index", x.fault(), 3);
        x.grid(1, 1, 1);
        x.give(1, 0, 0);
        Due.due("P69 store", x.fault(), 4);
        x.row(0, 1, -1);
        Due.due("P69 size", x.fault(), 5);
        x.whole(2, 1, 0);
        Due.due("P69 zero", x.fault(), 6);
        x.size(30, 0);
        x.size(0, 0);
        x.told(99);
        Due.due("P69 refusals are no faults", x.fault(), 6);
        Due.tape(x, "g1");
        Due.due("P33 state", x.act(), Due.STATE);
        Due.due("P69 an act's own is not meant", x.fault(), 6);
        x.fault();
        x.get(5, 1, 0);
        Due.due("P69 of a long too", x.fault(), 1);
    }

    private static Method[] calls() {
        Method[] all = RaceHouse.class.getMethods();
        Method[] own = Arrays.stream(all).filter(m -> m.getDeclaringClass() == RaceHouse.class).toArray(Method[]::new);
        Arrays.sort(own, Comparator.comparing(Method::getName));
        return own;
    }

    private static Object someValue(Random random, Class<?> type) {
        int[] edges = {Integer.MIN_VALUE, Integer.MAX_VALUE, -2, -1, 20, 21, 30, 40, 120, 1000000000, 1000000001};
        if (type == boolean.class) return random.nextBoolean();
        if (type == long.class) return random.nextInt(4) == 0 ? random.nextLong() : (long) random.nextInt(128);
        int kind = random.nextInt(20);
        if (kind == 0) return edges[random.nextInt(edges.length)];
        if (kind == 1) return random.nextInt(1000);
        return random.nextInt(kind < 8 ? 21 : 5);
    }

    private static void wildCalls() throws Exception {
        Random random = new Random(69);
        Method[] calls = calls();
        Due.due("P1 the whole face", calls.length, 68);
        for (int run = 0; run < 3000; run++) {
            x = new RaceHouse();
            for (int i = 0; i < 512; i++) {
                Method m = calls[random.nextInt(calls.length)];
                Object[] args = new Object[m.getParameterCount()];
                for (int a = 0; a < args.length; a++) args[a] = someValue(random, m.getParameterTypes()[a]);
                long answer = call(m, args);
                if (i < 511 && m.getReturnType() == int.class && answer <= -11 && answer >= -17 && !m.getName().equals("act")) {
                    i++;
                    boolean fine = x.fault() == -10 - answer || m.getName().matches("alter|byteOf|outcome");
                    if (!fine) Due.due("P69 fault of " + m.getName(), x.fault(), -10 - answer);
                }
            }
            Due.due("a run ended", 1, 1);
        }
    }

    private static long call(Method m, Object[] args) throws Exception {
        try {
            return ((Number) m.invoke(x, args)).longValue();
        } catch (java.lang.reflect.InvocationTargetException e) {
            Due.due(m.getName() + Arrays.toString(args) + " threw " + e.getCause(), 1, 0);
            return 0;
        }
    }

    /** The same calls give the same answers, and two objects have nothing in common. */
    private static void twoAlike() throws Exception {
        Method[] calls = calls();
        for (int run = 0; run < 100; run++) {
            RaceHouse a = new RaceHouse();
            RaceHouse b = new RaceHouse();
            Random random = new Random(run);
            for (int i = 0; i < 512; i++) {
                Method m = calls[random.nextInt(calls.length)];
                Object[] args = new Object[m.getParameterCount()];
                for (int k = 0; k < args.length; k++) args[k] = someValue(random, m.getParameterTypes()[k]);
                x = a;
                long first = call(m, args);
                x = b;
                Due.due(m.getName() + " of a second object", call(m, args), first);
            }
        }
    }
}
