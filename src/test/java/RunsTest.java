import java.io.IOException;
import java.nio.file.Files;
import java.nio.file.Path;
import java.util.ArrayList;
import java.util.HashMap;
import java.util.List;
import java.util.Map;
import java.util.stream.Stream;

/**
 * The runs under src/test/runs: calls in the order of the document's promises, each with the answer that is due.
 *
 * <pre>
 * == title            a run on a new object begins
 * use title           the calls of an earlier run come first
 * call(a, b) = want   a call; an argument or the wants may be first..last, or as many wants as calls
 * 7 x call() = want   seven times
 * ! call() = want     a call behind which nothing may have changed but fault(); the run's own object is not used
 * ! plan "text" = want  so too for a text that is fed and acted
 * tape "text"         the text comes to THE TAPE
 * plan "text" = want  the text comes to THE TAPE, then act()
 * </pre>
 *
 * A want is a number or a name; NULL, CAST, .. are answers by a FAULT, LOST/NULL, .. those of a call with a long.
 */
public final class RunsTest {
    private static final List<String> FAULTS = List.of("", "NULL", "CAST", "INDEX", "STORE", "SIZE", "ZERO", "STATE");
    private static final int MOST_CALLS = 512;
    private static final Map<String, List<Call>> RUNS = new HashMap<>();

    private final String file;
    private String title = "";
    private int line;
    private RaceHouse house;
    private List<Call> calls;
    private int asked;
    private int fault;
    private List<long[]> seen;

    private RunsTest(String file) {
        this.file = file;
    }

    public static void main(String[] args) throws IOException {
        List<Path> files;
        try (Stream<Path> found = Files.list(Path.of("src/test/runs"))) {
            files = found.filter(p -> p.toString().endsWith(".txt")).sorted().toList();
        }
        if (files.isEmpty()) throw new IllegalStateException("no runs");
        for (Path path : files) new RunsTest(path.getFileName().toString()).runAll(Files.readAllLines(path));
        Due.end();
    }

    private void runAll(List<String> lines) {
        begin("");
        for (String text : lines) {
            line++;
            String s = text.strip();
            if (s.isEmpty() || s.startsWith("#")) continue;
            try {
                runLine(s);
            } catch (RuntimeException e) {
                throw new IllegalStateException(file + ":" + line + ": " + s, e);
            }
        }
        begin("");
    }

    private void begin(String name) {
        if (!title.isEmpty() && RUNS.put(title, calls) != null) throw new IllegalStateException("two runs are " + title);
        title = name;
        house = new RaceHouse();
        calls = new ArrayList<>();
        asked = 0;
        fault = 0;
        seen = null;
    }

    private void runLine(String s) {
        if (s.startsWith("== ")) {
            begin(s.substring(3));
        } else if (s.startsWith("use ")) {
            for (Call call : RUNS.get(s.substring(4))) ask(call);
            fault = house.fault();
        } else if (s.startsWith("tape ")) {
            feed(quoted(s));
        } else if (s.startsWith("plan ")) {
            feed(quoted(s));
            due(Call.all("act()").get(0), wants(s.substring(s.lastIndexOf('"'))).get(0));
        } else if (s.startsWith("! plan ")) {
            List<Call> all = Call.feeds(quoted(s));
            all.addAll(Call.all("act()"));
            dueAlone(all, wants(s.substring(s.lastIndexOf('"'))).get(0));
        } else if (s.startsWith("! ")) {
            eachOf(s.substring(2), true);
        } else {
            eachOf(s, false);
        }
    }

    private static String quoted(String s) {
        return s.substring(s.indexOf('"') + 1, s.lastIndexOf('"')).replace("\\n", "\n");
    }

    private static List<String> wants(String s) {
        List<String> all = new ArrayList<>();
        for (String want : s.substring(s.indexOf('=') + 1).strip().split("\\s+")) {
            if (!want.contains("..")) {
                all.add(want);
                continue;
            }
            for (long v : Call.numbers(want)) all.add(Long.toString(v));
        }
        return all;
    }

    private void eachOf(String s, boolean alone) {
        String head = s.substring(0, s.indexOf('=')).strip();
        int times = 1;
        if (Character.isDigit(head.charAt(0))) {
            times = Integer.parseInt(head.substring(0, head.indexOf(" x ")));
            head = head.substring(head.indexOf(" x ") + 3).strip();
        }
        List<Call> all = new ArrayList<>();
        for (int i = 0; i < times; i++) all.addAll(Call.all(head));
        List<String> wants = wants(s);
        if (wants.size() != 1 && wants.size() != all.size()) {
            throw new IllegalArgumentException(all.size() + " calls and " + wants.size() + " wants");
        }
        for (int i = 0; i < all.size(); i++) {
            String want = wants.get(wants.size() == 1 ? 0 : i);
            if (alone) dueAlone(List.of(all.get(i)), want);
            else due(all.get(i), want);
        }
    }

    private long ask(Call call) {
        calls.add(call);
        seen = null;
        count(1);
        return call.on(house);
    }

    private void count(int more) {
        asked += more;
        if (asked > MOST_CALLS) throw new IllegalStateException("more than 512 calls of one object");
    }

    private void feed(String text) {
        int had = house.told(5);
        count(1);
        int fed = 0;
        for (Call call : Call.feeds(text)) {
            fed = Math.min(text.length(), fed + 8);
            check(call, ask(call), had + fed);
        }
    }

    private String where() {
        return file + ":" + line + ": " + title + ": ";
    }

    private void check(Call call, long got, long want) {
        Due.due(where() + call.text, got, want);
    }

    private static int faultOf(String want) {
        return Math.max(0, FAULTS.indexOf(want.substring(want.indexOf('/') + 1)));
    }

    private static long answerOf(String want) {
        if (want.startsWith("LOST")) return Due.LOST;
        return faultOf(want) > 0 ? -10 - faultOf(want) : Call.number(want);
    }

    private void due(Call call, String want) {
        long answer = answerOf(want);
        check(call, ask(call), answer);
        if (faultOf(want) > 0) fault = faultOf(want);
        if (answer >= 0) return;
        count(1);
        check(call, house.fault(), fault);
    }

    // ---- calls behind which nothing has changed

    private RaceHouse anotherHouse() {
        RaceHouse another = new RaceHouse();
        for (Call call : calls) call.on(another);
        return another;
    }

    private static long lastOf(List<Call> all, RaceHouse on) {
        long answer = 0;
        for (Call call : all) answer = call.on(on);
        return answer;
    }

    private void dueAlone(List<Call> tried, String want) {
        if (calls.size() + tried.size() + Seen.mostCalls() > MOST_CALLS) {
            throw new IllegalStateException("too long a run to see all");
        }
        if (seen == null) {
            seen = new ArrayList<>();
            for (int g = 0; g < Seen.groups(); g++) seen.add(Seen.of(g, anotherHouse()));
        }
        Call last = tried.get(tried.size() - 1);
        RaceHouse another = anotherHouse();
        check(last, lastOf(tried, another), answerOf(want));
        Due.due(where() + "fault() behind " + last.text, another.fault(), faultOf(want) > 0 ? faultOf(want) : fault);
        for (int g = 0; g < Seen.groups(); g++) dueUnchanged(tried, g);
    }

    private void dueUnchanged(List<Call> tried, int group) {
        RaceHouse another = anotherHouse();
        lastOf(tried, another);
        long[] before = seen.get(group);
        long[] behind = Seen.of(group, another);
        for (int i = 0; i < before.length; i++) {
            if (before[i] == behind[i]) continue;
            String last = tried.get(tried.size() - 1).text;
            Due.due(where() + Seen.nameOf(group, i) + " behind " + last, behind[i], before[i]);
        }
    }
}
