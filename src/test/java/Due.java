/** Counts and prints every call whose answer is not the one that is due. */
final class Due {
    static final int UNKNOWN = -1, OUTSIDE = -2, FULL = -4, NONE = -5, CUT = -6;
    static final int NULL = -11, CAST = -12, INDEX = -13, STORE = -14, SIZE = -15, ZERO = -16, STATE = -17;
    static final long LOST = Long.MIN_VALUE;
    static final long NO_NUMBER = 9221120237041090560L;

    private static int wrong;
    private static int asked;

    private Due() {
    }

    /** An answer, the one that is due, and the call that gave it, with its promise's number ahead. */
    static void due(String call, long got, long want) {
        asked++;
        if (got == want) return;
        wrong++;
        if (wrong <= 40) System.out.println(call + " answered " + got + ", due is " + want);
    }

    /** Feeds a text to THE TAPE, up to 8 bytes a call. */
    static void tape(RaceHouse x, String text) {
        int has = x.told(5);
        for (int i = 0; i < text.length(); i += 8) {
            String part = text.substring(i, Math.min(text.length(), i + 8));
            long w = 0;
            for (char c : part.toCharArray()) w = w << 8 | c;
            has += part.length();
            due("P32 feed(" + part + ")", x.feed(w, part.length()), has);
        }
    }

    static long bits(double d) {
        return Double.doubleToLongBits(d);
    }

    static void end() {
        System.out.println(asked + " answers, " + wrong + " not as due");
        if (wrong != 0 || asked == 0) System.exit(1);
    }
}
