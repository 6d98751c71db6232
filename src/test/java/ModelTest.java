import java.lang.reflect.Array;
import java.lang.reflect.Method;
import java.util.ArrayList;
import java.util.Arrays;
import java.util.List;
import java.util.Random;

/** Promises 2 to 31, 68 and 69 at random, beside ShelfModel, in which the machine itself has the FAULTS. */
public final class ModelTest {
    private static final String[] CALLS = {"row", "put", "get", "size", "grid", "split", "setSplit", "stepSplit", "give", "take", "hold",
        "is", "alike", "copy", "shift", "member", "says", "set", "field", "step", "link", "team", "pen", "lead", "out", "asked", "whole",
        "gap", "test", "ranked", "told"};
    private static final String MAKING = "row|grid|copy|member|pen|hold|take|ranked";
    private static final long[] EDGES = {0, 1, -1, 127, 128, -128, -129, 255, 256, 32767, 32768, -32768, -32769, 65535, 65536,
        Integer.MAX_VALUE, Integer.MIN_VALUE, 1L << 31, 1L << 32, Long.MAX_VALUE, Long.MIN_VALUE, Due.NO_NUMBER, 0x7FF0000000000001L,
        0x7FF0000000000000L, 0xFFF0000000000000L, Due.bits(1.5), Due.bits(-2.25), Due.bits(0.1), Due.bits(1e300), Due.bits(1e-300),
        Due.bits(Float.MAX_VALUE), 0x47EFFFFFF0000000L, 0x3690000000000000L, Due.bits(-0.0), Due.bits(7.0), Due.bits(86400000.0)};
    private static final Random RANDOM = new Random(2);

    private RaceHouse house;
    private ShelfModel model;
    private int boxes;
    /** What the box has in which a call looks for a place. */
    private Object first;

    public static void main(String[] args) throws Exception {
        List<Method> face = new ArrayList<>();
        for (Method m : RaceHouse.class.getMethods()) if (Arrays.asList(CALLS).contains(m.getName())) face.add(m);
        Due.due("the calls of parts 1 and 2", face.size(), CALLS.length);
        face.sort((a, b) -> a.getName().compareTo(b.getName()));
        for (int run = 0; run < 3000; run++) new ModelTest().run(face);
        Due.end();
    }

    private void run(List<Method> face) throws Exception {
        house = new RaceHouse();
        model = new ShelfModel();
        // few boxes make calls meet, many rows and grids make them full
        boxes = 3 + RANDOM.nextInt(14);
        boolean calm = RANDOM.nextBoolean();
        String maker = new String[] {"row", "grid", "copy"}[RANDOM.nextInt(3)];
        for (int i = 0; i < 250; i++) {
            Method m = face.get(RANDOM.nextInt(face.size()));
            // what stands in the boxes is used for a while
            if (calm && i > 40) while (m.getName().matches(MAKING) && RANDOM.nextInt(5) > 0) m = face.get(RANDOM.nextInt(face.size()));
            else if (RANDOM.nextInt(4) == 0) m = pick(face, maker);
            else if (RANDOM.nextInt(6) == 0) m = pick(face, RANDOM.nextBoolean() ? "pen" : "member");
            ask(m);
        }
    }

    private static Method pick(List<Method> face, String name) {
        for (Method m : face) if (m.getName().equals(name)) return m;
        throw new IllegalStateException(name);
    }

    private void ask(Method m) throws Exception {
        Class<?>[] types = m.getParameterTypes();
        long[] values = new long[types.length];
        Object[] args = new Object[types.length];
        for (int a = 0; a < types.length; a++) {
            values[a] = value(m.getName(), a, types[a]);
            if (isBox(m.getName(), a) && a < 2) first = values[a] >= 0 && values[a] < 30 ? model.boxes[(int) values[a]] : null;
            if (types[a] == long.class) args[a] = values[a];
            else if (types[a] == int.class) args[a] = (int) values[a];
            else args[a] = values[a] != 0;
        }
        String text = m.getName() + Arrays.toString(values);
        long got = ((Number) m.invoke(house, args)).longValue();
        long want = model.answer(m.getName(), values, m.getReturnType() == long.class);
        Due.due(text, got, want);
        Due.due("fault() behind " + text, house.fault(), model.fault);
    }

    private long value(String name, int a, Class<?> type) {
        if (type == boolean.class) return RANDOM.nextInt(2);
        if (type == long.class) return RANDOM.nextInt(5) == 0 ? RANDOM.nextLong() : EDGES[RANDOM.nextInt(EDGES.length)];
        if (RANDOM.nextInt(40) == 0) return RANDOM.nextBoolean() ? Integer.MIN_VALUE : Integer.MAX_VALUE;
        if (RANDOM.nextInt(25) == 0) return RANDOM.nextInt(34) - 2;
        if (isBox(name, a)) return someBox(name, a);
        if (name.equals("shift")) return RANDOM.nextInt(5);
        if (isType(name, a)) return someType(name);
        if (isPlace(name, a) && first != null && first.getClass().isArray()) return RANDOM.nextInt(Array.getLength(first) + 1);
        if (name.equals("row") && a == 2) return RANDOM.nextInt(6);
        if (name.equals("grid")) return RANDOM.nextInt(6) - 1;
        if (name.equals("link")) return 8 + RANDOM.nextInt(2);
        return RANDOM.nextInt(7);
    }

    /** Mostly one that has what the call is for. */
    private int someBox(String name, int a) {
        int box = RANDOM.nextInt(boxes);
        for (int i = 0; i < 8 && !suits(name, a, model.boxes[box]); i++) box = RANDOM.nextInt(boxes);
        return box;
    }

    private static boolean suits(String name, int a, Object o) {
        if (name.matches("split|setSplit|stepSplit|give") && a == 0 || name.equals("take") && a == 1) return o instanceof int[][];
        if (name.equals("give")) return o instanceof int[];
        if (name.equals("lead") && a == 2) return o instanceof ShelfModel.Member;
        if (name.matches("lead|out|asked")) return ShelfModel.typeOf(o) == 20;
        if (name.matches("set|field|step|link|team")) return o instanceof ShelfModel.Entrant;
        if (name.equals("says")) return o instanceof ShelfModel.Member;
        if (name.equals("gap") || name.equals("ranked") && a == 1) return o instanceof float[] || o instanceof double[];
        if (name.matches("put|get")) return o != null && o.getClass().isArray();
        return true;
    }

    private static boolean isBox(String name, int a) {
        if (name.matches("whole|test|told")) return false;
        if (a == 0) return true;
        if (name.matches("hold|alike|copy|ranked|take")) return a == 1;
        return name.matches("shift|give|link|lead") && a == 2;
    }

    private static boolean isPlace(String name, int a) {
        if (name.matches("put|get|take")) return a == 2;
        return name.matches("split|setSplit|stepSplit|give|lead|out|asked") && a == 1;
    }

    private static boolean isType(String name, int a) {
        return name.matches("row|put|get|size|is|member|pen") && a == 1 || name.equals("out") && a == 2;
    }

    private long someType(String name) {
        int[] pens = {9, 10, 11, 12, 13, 18, 19, 9, 9};
        if (name.equals("member")) return 10 + RANDOM.nextInt(8);
        if (name.equals("pen")) return pens[RANDOM.nextInt(pens.length)];
        if (name.equals("out")) return RANDOM.nextInt(3) == 0 ? 9 : 9 + RANDOM.nextInt(11);
        if (name.matches("put|get|size") && RANDOM.nextInt(3) > 0) return ShelfModel.typeOf(first);
        return name.equals("is") ? RANDOM.nextInt(21) : 1 + RANDOM.nextInt(8);
    }
}
