import java.lang.reflect.InvocationTargetException;
import java.lang.reflect.Method;
import java.util.ArrayList;
import java.util.HashMap;
import java.util.List;
import java.util.Map;

/** One call of the face, as a run's text tells it: name(argument, ..). */
final class Call {
    private static final Map<String, Method> FACE = new HashMap<>();
    private static final Map<String, Long> NAMES = new HashMap<>();

    static {
        for (Method m : RaceHouse.class.getMethods()) {
            if (m.getDeclaringClass() == RaceHouse.class) FACE.put(m.getName(), m);
        }
        String[] names = {"UNKNOWN", "OUTSIDE", "NO", "FULL", "NONE", "CUT"};
        for (int i = 0; i < names.length; i++) NAMES.put(names[i], -1L - i);
        NAMES.put("IMIN", (long) Integer.MIN_VALUE);
        NAMES.put("IMAX", (long) Integer.MAX_VALUE);
        NAMES.put("LMIN", Long.MIN_VALUE);
        NAMES.put("LMAX", Long.MAX_VALUE);
        NAMES.put("LOST", Long.MIN_VALUE);
        NAMES.put("nan", Due.NO_NUMBER);
        NAMES.put("inf", Due.bits(Double.POSITIVE_INFINITY));
        NAMES.put("-inf", Due.bits(Double.NEGATIVE_INFINITY));
        NAMES.put("true", 1L);
        NAMES.put("false", 0L);
    }

    final String text;
    private final Method method;
    private final Object[] args;

    private Call(String name, long[] values) {
        method = FACE.get(name);
        if (method == null || method.getParameterCount() != values.length) {
            throw new IllegalArgumentException("no call of the face: " + name + " with " + values.length);
        }
        args = new Object[values.length];
        StringBuilder shown = new StringBuilder(name + "(");
        for (int i = 0; i < args.length; i++) {
            Class<?> type = method.getParameterTypes()[i];
            if (type == int.class) args[i] = Math.toIntExact(values[i]);
            else if (type == long.class) args[i] = values[i];
            else args[i] = values[i] != 0;
            shown.append(i == 0 ? "" : ", ").append(args[i]);
        }
        text = shown.append(")").toString();
    }

    /** A number, a name, a double's BITS (1.5d), or hexadecimal digits behind 0x. */
    static long number(String s) {
        if (NAMES.containsKey(s)) return NAMES.get(s);
        if (s.startsWith("0x")) return Long.parseUnsignedLong(s.substring(2), 16);
        if (s.endsWith("d")) return Due.bits(Double.parseDouble(s));
        return Long.parseLong(s);
    }

    /** All numbers that a text tells: one, or first..last, upward or downward. */
    static long[] numbers(String s) {
        int dots = s.indexOf("..");
        if (dots < 0) return new long[] {number(s)};
        long first = number(s.substring(0, dots));
        long last = number(s.substring(dots + 2));
        long[] all = new long[(int) Math.abs(last - first) + 1];
        for (int i = 0; i < all.length; i++) all[i] = last < first ? first - i : first + i;
        return all;
    }

    /** Every call that a text tells: where arguments are told as first..last, the last of these goes fastest. */
    static List<Call> all(String text) {
        int open = text.indexOf('(');
        if (open < 0 || !text.endsWith(")")) throw new IllegalArgumentException("no call: " + text);
        String inside = text.substring(open + 1, text.length() - 1).trim();
        String[] parts = inside.isEmpty() ? new String[0] : inside.split("\\s*,\\s*");
        List<long[]> rows = new ArrayList<>();
        rows.add(new long[parts.length]);
        for (int i = 0; i < parts.length; i++) {
            List<long[]> longer = new ArrayList<>();
            for (long[] row : rows) {
                for (long v : numbers(parts[i])) {
                    long[] one = row.clone();
                    one[i] = v;
                    longer.add(one);
                }
            }
            rows = longer;
        }
        List<Call> calls = new ArrayList<>();
        for (long[] row : rows) calls.add(new Call(text.substring(0, open), row));
        return calls;
    }

    /** The calls that bring a text to THE TAPE, up to 8 bytes each. */
    static List<Call> feeds(String text) {
        List<Call> calls = new ArrayList<>();
        for (int i = 0; i < text.length(); i += 8) {
            String part = text.substring(i, Math.min(text.length(), i + 8));
            long w = 0;
            for (char c : part.toCharArray()) w = w << 8 | c;
            calls.add(new Call("feed", new long[] {w, part.length()}));
        }
        return calls;
    }

    long on(RaceHouse house) {
        try {
            Object answer = method.invoke(house, args);
            return ((Number) answer).longValue();
        } catch (InvocationTargetException e) {
            throw new IllegalStateException(text + " threw", e.getCause());
        } catch (IllegalAccessException e) {
            throw new IllegalStateException(text, e);
        }
    }
}
