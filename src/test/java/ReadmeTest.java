import java.io.IOException;
import java.nio.file.Files;
import java.nio.file.Path;
import java.util.regex.Matcher;
import java.util.regex.Pattern;

/** README.md: every call that it shows answers what stands behind it. */
public final class ReadmeTest {
    private static final Pattern SHOWN = Pattern.compile("house\\.(\\w+\\(.*\\));\\s+// ([-\\w]+).*");

    public static void main(String[] args) throws IOException {
        RaceHouse house = new RaceHouse();
        for (String line : Files.readAllLines(Path.of("README.md"))) {
            Matcher shown = SHOWN.matcher(line);
            if (!shown.matches()) {
                Due.due("a call without an answer: " + line, line.startsWith("house.") ? 1 : 0, 0);
                continue;
            }
            String call = shown.group(1).replaceAll("(?<=\\w)L\\b", "");
            Due.due(line, Call.all(call).get(0).on(house), Call.number(shown.group(2)));
        }
        Due.end();
    }
}
