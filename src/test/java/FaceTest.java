import java.lang.reflect.Constructor;
import java.lang.reflect.Field;
import java.lang.reflect.Method;
import java.lang.reflect.Modifier;
import java.util.Set;
import java.util.TreeSet;

/** The public face: its constants, its constructor, its calls, and nothing more. */
public final class FaceTest {
    private static final String[] FACE = {
        "int row(int, int, int)", "int put(int, int, int, long)", "long get(int, int, int)", "int size(int, int)",
        "int grid(int, int, int)", "long split(int, int, int)", "int setSplit(int, int, int, int)",
        "long stepSplit(int, int, int, boolean)", "int give(int, int, int)", "int take(int, int, int)",
        "int hold(int, int)", "int is(int, int)", "int alike(int, int)", "int copy(int, int, boolean)",
        "int shift(int, int, int, int, int)", "int member(int, int)", "long says(int, int)", "int set(int, int, long)",
        "long field(int, int)", "long step(int, int, int)", "int link(int, int, int)", "int team(int)",
        "int pen(int, int, int)", "int lead(int, int, int)", "int out(int, int, int)", "long asked(int, int, int)",
        "long whole(int, long, long)", "long gap(int, int)", "int test(int, long, long, int)", "int ranked(int, int)",
        "int feed(long, int)", "int act()", "int outcome(int)", "long counter(int)", "long slip(int)",
        "int mark(int, int, int)", "int anew(int)", "long hut(int, int, int)", "int chip(int, int)",
        "int read(int, int, int, int)", "int rules(int, int, int)", "int readOf(int)", "int passes(int, int)",
        "long pass(int, int, int)", "int place(int, int)", "int fit(int)", "long used(int, int)", "int gun(int, int)",
        "int join(int, int, int)", "long start(int)", "int time(int, int, int, int)", "long merged(int, int)",
        "int source(int, int)", "int penalty(int, int, int)", "int back(int)", "int state(int)", "long result(int)",
        "int rank(int)", "long best(int, int)", "int keep(long)", "int cut(int)", "int alter(int, int, int)",
        "int doubled(int, int)", "long kept(int)", "int pages(int)", "int byteOf(int, int)", "int told(int)",
        "int fault()",
    };

    public static void main(String[] args) {
        constants();
        members();
        Due.end();
    }

    private static void constants() {
        Due.due("UNKNOWN", RaceHouse.UNKNOWN, -1);
        Due.due("OUTSIDE", RaceHouse.OUTSIDE, -2);
        Due.due("NO", RaceHouse.NO, -3);
        Due.due("FULL", RaceHouse.FULL, -4);
        Due.due("NONE", RaceHouse.NONE, -5);
        Due.due("CUT", RaceHouse.CUT, -6);
        Due.due("LOST", RaceHouse.LOST, Long.MIN_VALUE);
    }

    private static void members() {
        Set<String> shown = new TreeSet<>();
        Set<String> hidden = new TreeSet<>();
        for (Method m : RaceHouse.class.getDeclaredMethods()) {
            if (Modifier.isPrivate(m.getModifiers())) {
                hidden.add(m.getName());
                continue;
            }
            StringBuilder s = new StringBuilder(m.getReturnType() + " " + m.getName() + "(");
            String comma = "";
            for (Class<?> p : m.getParameterTypes()) {
                s.append(comma).append(p);
                comma = ", ";
            }
            shown.add(s.append(")").toString());
            Due.due("public " + m, Modifier.isPublic(m.getModifiers()) ? 1 : 0, 1);
        }
        Due.due("methods of the face " + shown, shown.equals(new TreeSet<>(Set.of(FACE))) ? 1 : 0, 1);
        for (String head : shown) {
            String name = head.substring(head.indexOf(' ') + 1, head.indexOf('('));
            Due.due("private " + name, hidden.contains(name) ? 1 : 0, 0);
        }
        int fields = 0;
        for (Field f : RaceHouse.class.getDeclaredFields()) {
            if (!Modifier.isPrivate(f.getModifiers())) fields++;
        }
        Due.due("constants of the face", fields, 7);
        Constructor<?>[] makers = RaceHouse.class.getDeclaredConstructors();
        Due.due("constructors", makers.length, 1);
        Due.due("public constructor", Modifier.isPublic(makers[0].getModifiers()) ? makers[0].getParameterCount() : -1, 0);
        Due.due("public final", RaceHouse.class.getModifiers() & (Modifier.PUBLIC | Modifier.FINAL), Modifier.PUBLIC | Modifier.FINAL);
        for (Class<?> c : RaceHouse.class.getDeclaredClasses()) {
            Due.due("static " + c, Modifier.isStatic(c.getModifiers()) ? 1 : 0, 1);
        }
    }
}
