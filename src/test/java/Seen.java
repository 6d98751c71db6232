import java.util.ArrayList;
import java.util.List;
import java.util.function.ToLongFunction;

/** All that can be seen of a house from outside; it is asked on several houses that were used alike. */
final class Seen {
    /** A group may change the house that it is asked on, so each needs a house of its own. */
    private static final List<Group> GROUPS = new ArrayList<>();

    private static final class Group {
        final List<String> names = new ArrayList<>();
        final List<ToLongFunction<RaceHouse>> asks = new ArrayList<>();

        void ask(String name, ToLongFunction<RaceHouse> call) {
            names.add(name);
            asks.add(call);
        }
    }

    static {
        GROUPS.add(counts());
        GROUPS.add(tape());
        GROUPS.add(power());
        GROUPS.add(clocks());
        GROUPS.add(waves());
        Group many = new Group();
        for (int box = 0; box < 30; box++) seeBox(many, box);
        seeReads(many);
        seeCourse(many);
        seePages(many);
        split(many);
    }

    private Seen() {
    }

    /** Groups whose answers do not hang on one another may be asked in parts. */
    private static void split(Group many) {
        Group part = null;
        for (int i = 0; i < many.asks.size(); i++) {
            if (i % 120 == 0) {
                part = new Group();
                GROUPS.add(part);
            }
            part.ask(many.names.get(i), many.asks.get(i));
        }
    }

    private static Group counts() {
        Group g = new Group();
        for (int what = 0; what <= 10; what++) {
            int w = what;
            g.ask("told(" + w + ")", h -> h.told(w));
        }
        for (int what = 0; what < 8; what++) {
            int w = what;
            g.ask("outcome(" + w + ")", h -> h.outcome(w));
            g.ask("counter(" + w + ")", h -> h.counter(w));
        }
        for (int i = 0; i < 60; i++) {
            int s = i;
            g.ask("slip(" + s + ")", h -> h.slip(s));
        }
        return g;
    }

    /** What stands on THE TAPE is seen by doing it. */
    private static Group tape() {
        Group g = new Group();
        g.ask("act()", h -> h.act());
        for (int what = 0; what < 8; what++) {
            int w = what;
            g.ask("outcome(" + w + ") then", h -> h.outcome(w));
            g.ask("counter(" + w + ") then", h -> h.counter(w));
        }
        g.ask("told(6) then", h -> h.told(6));
        return g;
    }

    /** Whether power is set to go is seen by keeping. */
    private static Group power() {
        Group g = new Group();
        for (int i = 0; i < 3; i++) {
            long v = -1 - i;
            g.ask("keep(" + v + ")", h -> h.keep(v));
        }
        for (int what = 0; what < 5; what++) {
            int w = what;
            g.ask("pages(" + w + ") then", h -> h.pages(w));
        }
        for (int i = 0; i < 24; i++) {
            int k = i;
            g.ask("kept(" + k + ") then", h -> h.kept(k));
        }
        return g;
    }

    private static Group clocks() {
        Group g = new Group();
        for (int mat = 0; mat < 6; mat++) {
            int m = mat;
            g.ask("mark(" + m + ", 3, -1)", h -> h.mark(m, 3, -1));
            g.ask("anew(" + m + ")", h -> h.anew(m));
        }
        for (int chip = 0; chip < 40; chip++) {
            int c = chip;
            g.ask("chip(" + c + ", -1)", h -> h.chip(c, -1));
        }
        return g;
    }

    private static Group waves() {
        Group g = new Group();
        for (int wave = 0; wave < 4; wave++) {
            int w = wave;
            g.ask("join(19, " + w + ", 0)", h -> h.join(19, w, 0));
            g.ask("start(19)", h -> h.start(19));
        }
        for (int i = 0; i < 60; i++) {
            int p = i;
            g.ask("back(" + p + ")", h -> h.back(p));
        }
        return g;
    }

    private static void seeBox(Group g, int box) {
        String b = "(" + box + ", ";
        for (int type = 1; type <= 20; type++) {
            int t = type;
            g.ask("is" + b + t + ")", h -> h.is(box, t));
            if (t <= 8 || t == 20) g.ask("size" + b + t + ")", h -> h.size(box, t));
        }
        for (int type = 1; type <= 7; type++) {
            for (int item = 0; item < 20; item++) {
                int t = type;
                int i = item;
                g.ask("get" + b + t + ", " + i + ")", h -> h.get(box, t, i));
            }
        }
        for (int place = 0; place < 12; place++) {
            int i = place;
            g.ask("out" + b + i + ", 9)", h -> h.out(box, i, 9));
            g.ask("out" + b + i + ", 14)", h -> h.out(box, i, 14));
            for (int item = 0; item < 12 && place < 8; item++) {
                int j = item;
                g.ask("split" + b + i + ", " + j + ")", h -> h.split(box, i, j));
            }
        }
        for (int field = 0; field < 10; field++) {
            int f = field;
            g.ask("field" + b + f + ")", h -> h.field(box, f));
            if (f < 5) g.ask("says" + b + f + ")", h -> h.says(box, f));
        }
        g.ask("team(" + box + ")", h -> h.team(box));
        for (int other = 0; other < box; other++) {
            int o = other;
            g.ask("alike" + b + o + ")", h -> h.alike(box, o));
        }
    }

    private static void seeReads(Group g) {
        int[] moments = {0, 7, 1000, 1000000};
        for (int mat = 0; mat < 6; mat++) {
            int m = mat;
            for (int line = 0; line < 8; line++) {
                int n = line;
                for (int t : moments) g.ask("hut(" + m + ", " + n + ", " + t + ")", h -> h.hut(m, n, t));
            }
            for (int bib = 0; bib < 20; bib++) {
                int b = bib;
                g.ask("passes(" + m + ", " + b + ")", h -> h.passes(m, b));
                for (int pass = 0; pass < 3; pass++) {
                    int i = pass;
                    g.ask("pass(" + m + ", " + b + ", " + i + ")", h -> h.pass(m, b, i));
                }
            }
        }
        for (int read = 0; read < 120; read++) {
            int r = read;
            g.ask("readOf(" + r + ")", h -> h.readOf(r));
        }
    }

    private static void seeCourse(Group g) {
        for (int bib = 0; bib < 20; bib++) {
            int b = bib;
            g.ask("fit(" + b + ")", h -> h.fit(b));
            g.ask("start(" + b + ")", h -> h.start(b));
            g.ask("state(" + b + ")", h -> h.state(b));
            g.ask("result(" + b + ")", h -> h.result(b));
            g.ask("rank(" + b + ")", h -> h.rank(b));
            for (int place = 0; place < 8; place++) {
                int p = place;
                g.ask("used(" + b + ", " + p + ")", h -> h.used(b, p));
                g.ask("merged(" + b + ", " + p + ")", h -> h.merged(b, p));
                g.ask("source(" + b + ", " + p + ")", h -> h.source(b, p));
            }
        }
        for (int club = 0; club < 6; club++) {
            int c = club;
            for (int k = 1; k <= 3; k++) {
                int n = k;
                g.ask("best(" + c + ", " + n + ")", h -> h.best(c, n));
            }
        }
        for (int bib = 0; bib < 20; bib++) {
            int b = bib;
            for (int place = 0; place < 8; place++) {
                int p = place;
                // how many HANDS it has; no other answer in this part hangs on that
                g.ask("time(4, " + b + ", " + p + ", 5)", h -> h.time(4, b, p, 5));
            }
        }
    }

    private static void seePages(Group g) {
        for (int what = 0; what < 5; what++) {
            int w = what;
            g.ask("pages(" + w + ")", h -> h.pages(w));
        }
        for (int i = 0; i < 24; i++) {
            int k = i;
            g.ask("kept(" + k + ")", h -> h.kept(k));
        }
        for (int sector = 0; sector < 24; sector++) {
            int s = sector;
            for (int place = 0; place < 16; place++) {
                int i = place;
                g.ask("byteOf(" + s + ", " + i + ")", h -> h.byteOf(s, i));
            }
        }
    }

    /** The most calls that any one house is asked. */
    static int mostCalls() {
        int most = 0;
        for (Group g : GROUPS) most = Math.max(most, g.asks.size());
        return most;
    }

    static int groups() {
        return GROUPS.size();
    }

    static long[] of(int group, RaceHouse house) {
        List<ToLongFunction<RaceHouse>> asks = GROUPS.get(group).asks;
        long[] answers = new long[asks.size()];
        for (int i = 0; i < answers.length; i++) answers[i] = asks.get(i).applyAsLong(house);
        return answers;
    }

    static String nameOf(int group, int ask) {
        return GROUPS.get(group).names.get(ask);
    }
}
