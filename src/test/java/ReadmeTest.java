import java.io.IOException;
import java.lang.reflect.Method;
import java.lang.reflect.Modifier;
import java.nio.file.Files;
import java.nio.file.Path;
import java.util.Map;
import java.util.TreeMap;
import java.util.TreeSet;
import java.util.regex.Matcher;
import java.util.regex.Pattern;

/** README.md: its example answers as it says, and its table has a row for every call, with the refusals it may answer. */
public final class ReadmeTest {
    private static final Map<String, Long> NAMED = Map.of("NONE", -1L, "UNKNOWN", -101L, "OUTSIDE", -102L,
        "STATE", -103L, "FULL", -104L);
    // What a call refuses, as the document tells it, in order; calls that refuse nothing are left out.
    private static final Map<String, String> REFUSALS = Map.ofEntries(
        Map.entry("horse", "UNKNOWN OUTSIDE STATE"), Map.entry("leave", "UNKNOWN STATE"),
        Map.entry("sit", "UNKNOWN OUTSIDE STATE"), Map.entry("rise", "UNKNOWN STATE"),
        Map.entry("law", "UNKNOWN OUTSIDE"), Map.entry("best", "OUTSIDE"), Map.entry("group", "OUTSIDE STATE"),
        Map.entry("rider", "UNKNOWN"), Map.entry("coat", "UNKNOWN OUTSIDE FULL"), Map.entry("sample", "UNKNOWN"),
        Map.entry("strip", "UNKNOWN OUTSIDE"), Map.entry("swap", "UNKNOWN OUTSIDE"), Map.entry("mark", "UNKNOWN"),
        Map.entry("find", "UNKNOWN"), Map.entry("fair", "OUTSIDE FULL"), Map.entry("road", "UNKNOWN OUTSIDE"),
        Map.entry("turn", "STATE"), Map.entry("hours", "OUTSIDE"), Map.entry("come", "OUTSIDE FULL"),
        Map.entry("book", "OUTSIDE"), Map.entry("count", "OUTSIDE"));
    private static final Check c = new Check("ReadmeTest");

    public static void main(String[] args) throws IOException {
        String page = Files.readString(Path.of("README.md"));
        example(page);
        table(page);
        answers(page);
        c.finish();
    }

    private static void example(String page) {
        GallopingRing ring = new GallopingRing();
        Matcher line = Pattern.compile("(?m)^ring\\.(\\w+)\\((.*?)\\);\\s*// (-?\\d+|[A-Z]+)\\b").matcher(page);
        int lines = 0;
        while (line.find()) {
            String call = (line.group(1) + " " + line.group(2).replace(",", "")).strip();
            String told = line.group(3);
            c.due("the example's " + call, Given.make(ring, call), NAMED.containsKey(told) ? NAMED.get(told) : Long.parseLong(told));
            lines++;
        }
        c.due("lines of the example", lines, page.split("\nring\\.", -1).length - 1);
        c.holds("there is an example: " + lines, lines > 5);
    }

    private static void table(String page) {
        Map<String, Integer> rows = new TreeMap<>();
        Matcher row = Pattern.compile("(?m)^\\| `(\\w+)\\((.*?)\\)` \\| .* \\|([^|]*)\\|$").matcher(page);
        while (row.find()) {
            String name = row.group(1);
            rows.put(name, row.group(2).isEmpty() ? 0 : row.group(2).split(", ").length);
            c.same("the refusals of " + name, capitals(row.group(3)), REFUSALS.getOrDefault(name, ""));
        }
        Map<String, Integer> calls = new TreeMap<>();
        for (Method method : GallopingRing.class.getDeclaredMethods()) {
            if (Modifier.isPublic(method.getModifiers())) {
                calls.put(method.getName(), method.getParameterCount());
            }
        }
        c.same("the calls of the table", rows.toString(), calls.toString());
    }

    private static String capitals(String cell) {
        StringBuilder found = new StringBuilder();
        Matcher name = Pattern.compile("`([A-Z]+)`").matcher(cell);
        while (name.find()) {
            found.append(found.length() > 0 ? " " : "").append(name.group(1));
        }
        return found.toString();
    }

    private static void answers(String page) {
        TreeSet<String> told = new TreeSet<>();
        Matcher row = Pattern.compile("(?m)^\\| `([A-Z]+)` \\((-\\d+)\\) \\|").matcher(page);
        while (row.find()) {
            told.add(row.group(1) + "=" + row.group(2));
        }
        TreeSet<String> due = new TreeSet<>();
        NAMED.forEach((name, value) -> due.add(name + "=" + value));
        c.same("the answers of the table", told.toString(), due.toString());
    }
}
