import java.io.IOException;
import java.nio.file.Files;
import java.nio.file.Path;
import java.util.ArrayList;
import java.util.LinkedHashMap;
import java.util.LinkedHashSet;
import java.util.List;
import java.util.Map;
import java.util.Set;
import java.util.function.LongSupplier;
import java.util.regex.MatchResult;
import java.util.regex.Matcher;
import java.util.regex.Pattern;

/** README.md: that it tells each call as the document does, and that its example answers so. */
final class ReadmeTests {
    /** Each promise: the call, its refusals in the order in which they are told, NONE behind them. */
    private static final List<String> PROMISES = List.of(
            "write(letter): BAD FULL",
            "wipe():",
            "fault(): NONE",
            "gorge(): LATE",
            "about(what): BAD",
            "walker(walker, what): UNKNOWN BAD NONE",
            "minute(treads): BAD LATE",
            "change(i): BAD LATE",
            "rest(): LATE",
            "undo(): LATE",
            "left(n, song): BAD",
            "firstTurn(n, song): BAD NONE",
            "order(n, song, what): BAD",
            "share(walker, n, song, upper): UNKNOWN BAD",
            "bears(walker): UNKNOWN LATE NONE",
            "still(n, heard, x, y, upper): BAD LATE",
            "pebbles(c, n, found): BAD NONE",
            "tell(t, heard): BAD FULL",
            "untell():",
            "letGo(sings):",
            "link(v, x, n, upper): BAD",
            "seed(v):",
            "gorges(m): BAD",
            "keep(slot): UNKNOWN",
            "again(slot): UNKNOWN LATE");

    private ReadmeTests() {
    }

    static void run() {
        Report.test("README: its example answers so", ReadmeTests::example);
        Report.test("README: each call and its refusals, as they are promised", ReadmeTests::calls);
        Report.test("README: the constants", ReadmeTests::constants);
    }

    private static void example() {
        GorgeRow row = Rows.written("G59W10W03");
        Map<String, LongSupplier> calls = new LinkedHashMap<>();
        calls.put("row.fault();", row::fault);
        calls.put("row.gorge();", row::gorge);
        calls.put("row.minute(2);", () -> row.minute(2));
        calls.put("row.about(3);", () -> row.about(3));
        calls.put("row.left(2, 200);", () -> row.left(2, 200));
        calls.put("row.order(2, 200, 0);", () -> row.order(2, 200, 0));
        calls.put("row.undo();", row::undo);
        calls.put("row.bears(0);", () -> row.bears(0));
        calls.put("row.link(1, 6, 4, true);", () -> row.link(1, 6, 4, true));
        calls.put("row.link(1, 6, 4, false);", () -> row.link(1, 6, 4, false));
        List<String> due = new ArrayList<>();
        calls.forEach((call, answer) -> due.add(call + " " + answer.getAsLong()));
        List<String> told = new ArrayList<>();
        for (MatchResult line : all("(?m)^(row\\.\\S.*?;) +// (-?\\d+):", text())) {
            told.add(line.group(1) + " " + line.group(2));
        }
        Report.holds("told " + told + ", due " + due, told.equals(due));
        Report.holds("THE TEXT of it", text().contains("\"G59W10W03\".toCharArray()"));
    }

    private static void calls() {
        List<String> told = new ArrayList<>();
        String row = "(?m)^\\| `(\\w+\\(.*?\\))` \\|[^|]+\\|([^|]*)\\|$";
        for (MatchResult line : all(row, text())) {
            told.add((line.group(1) + ": " + words(line.group(2))).trim());
        }
        for (int k = 0; k < Math.max(told.size(), PROMISES.size()); k++) {
            String call = k < told.size() ? told.get(k) : "nothing";
            String due = k < PROMISES.size() ? PROMISES.get(k) : "nothing";
            Report.holds("told " + call + ", due " + due, call.equals(due));
        }
    }

    private static void constants() {
        String readme = text();
        Map<String, Integer> due = new LinkedHashMap<>();
        due.put("UNKNOWN", GorgeRow.UNKNOWN);
        due.put("BAD", GorgeRow.BAD);
        due.put("LATE", GorgeRow.LATE);
        due.put("FULL", GorgeRow.FULL);
        due.put("NONE", GorgeRow.NONE);
        due.forEach((name, number) -> Report.holds(name, readme.contains("| `" + name + "` | " + number + " |")));
    }

    /** The refusals that are named, each once; NONE, which is no refusal, behind them. */
    private static String words(String text) {
        Set<String> words = new LinkedHashSet<>();
        for (MatchResult word : all("\\b(UNKNOWN|BAD|LATE|FULL)\\b", text)) {
            words.add(word.group());
        }
        if (text.contains("`NONE`")) {
            words.add("NONE");
        }
        return String.join(" ", words);
    }

    private static List<MatchResult> all(String pattern, String text) {
        List<MatchResult> all = new ArrayList<>();
        Matcher matcher = Pattern.compile(pattern).matcher(text);
        while (matcher.find()) {
            all.add(matcher.toMatchResult());
        }
        return all;
    }

    private static String text() {
        try {
            return Files.readString(Path.of("README.md"));
        } catch (IOException e) {
            throw new IllegalStateException("to be run from the project's folder: " + e);
        }
    }
}
