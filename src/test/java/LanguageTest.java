import java.io.IOException;
import java.nio.file.Files;
import java.nio.file.Path;
import java.util.ArrayDeque;
import java.util.Deque;
import java.util.regex.Matcher;
import java.util.regex.Pattern;

/** The rules of ../shared/LANGUAGE.md that can be seen in the text of the class; each look bears its rule's number. */
public final class LanguageTest {
    private static final String[][] FORBIDDEN = {
        {"1", "\\b(package|protected)\\b"},
        {"2", "::"},
        {"3", "\\[\\]\\s*\\[\\]\\s*\\[\\]"},
        {"4", "\\bimport\\s+(?!java\\.util\\.(ArrayList|List|Arrays|Iterator)\\s*;)"},
        {"4", "\\bjava\\.(?!util\\.(ArrayList|List|Arrays|Iterator)\\b)"},
        {"4", "\\bSystem\\b(?!\\.arraycopy\\()"},
        {"4", "\\bArrays\\.(?!(copyOf|copyOfRange|fill)\\()"},
        {"4", "\\bList\\.(?!of\\()"},
        {"4", "\\bMath\\.(?!(abs|max|min|floorDiv|floorMod)\\()"},
        {"4", "\\b(Integer|Long)\\.(parse|valueOf|toString|decode|getInteger|getLong)\\w*"},
        {"4", "\\w+Exact\\("},
        {"5", "\\bstatic\\s*\\{"},
        {"6", "\\b(throw|throws|try|catch|finally|synchronized|assert|volatile|native)\\b"},
        {"6", "\\b\\w*(Exception|Error)\\b"},
        {"6", "\\b(hashCode|identityHashCode)\\b"},
        {"13", "\\b(Random|Thread|Runtime|Scanner|File|Files|Path|Instant|Clock)\\b"},
    };
    private static final int MOST_PARAMETERS = 7;
    // "Some sixty lines", "some twelve classes": a few more are no fault.
    private static final int MOST_LINES = 70;
    private static final int MOST_CLASSES = 14;
    private static final Check c = new Check("LanguageTest");

    public static void main(String[] args) throws IOException {
        String text = Files.readString(Path.of("src/main/java/GallopingRing.java"));
        String code = withoutCommentsAndTexts(text);
        c.holds("rule 3: characters 0 to 255 alone", text.chars().allMatch(ch -> ch < 256));
        for (String[] rule : FORBIDDEN) {
            Matcher found = Pattern.compile(rule[1]).matcher(code);
            c.holds("rule " + rule[0] + ": nothing like " + rule[1], !found.find());
        }
        arrows(code);
        long classes = Pattern.compile("\\b(class|interface|enum|record)\\s+\\w+").matcher(code).results().count();
        c.holds("rule 11: " + classes + " classes", classes <= MOST_CLASSES);
        blocks(code);
        c.finish();
    }

    // Lines are kept, so that they can be counted.
    private static String withoutCommentsAndTexts(String text) {
        String noTexts = text.replaceAll("\"(\\\\.|[^\"\\\\\n])*\"", "\"\"").replaceAll("'(\\\\.|[^'\\\\\n])'", "' '");
        String noLines = noTexts.replaceAll("//[^\n]*", "");
        return Pattern.compile("/\\*.*?\\*/", Pattern.DOTALL).matcher(noLines)
            .replaceAll(comment -> "\n".repeat((int) comment.group().chars().filter(ch -> ch == '\n').count()));
    }

    /** Rule 2: an arrow that is not a switch's is a lambda. */
    private static void arrows(String code) {
        Matcher arrow = Pattern.compile("(?m)^(.*?)->").matcher(code);
        while (arrow.find()) {
            c.holds("rule 2: no lambda: " + arrow.group(), arrow.group(1).matches("\\s*(case\\b.*|default\\s*)"));
        }
    }

    /** Rules 2 and 11: what a brace opens is told by the words ahead of it and by what it stands in. */
    private static void blocks(String code) {
        Deque<Integer> starts = new ArrayDeque<>();
        Deque<String> kinds = new ArrayDeque<>();
        int methods = 0;
        int headerFrom = 0;
        for (int i = 0; i < code.length(); i++) {
            char ch = code.charAt(i);
            if (ch == '{') {
                String kind = kindOf(code.substring(headerFrom, i), kinds.isEmpty() ? "" : kinds.peek());
                methods += kind.equals("method") ? 1 : 0;
                kinds.push(kind);
                starts.push(i);
            }
            if (ch == '}') {
                long lines = code.substring(starts.pop(), i).lines().count();
                c.holds("rule 11: a method of " + lines + " lines", !kinds.pop().equals("method") || lines <= MOST_LINES);
            }
            if (ch == '{' || ch == '}' || ch == ';') {
                headerFrom = i + 1;
            }
        }
        c.holds("methods were found: " + methods, methods > 30);
    }

    private static String kindOf(String header, String around) {
        if (Pattern.compile("\\b(class|interface|enum|record)\\s+\\w+").matcher(header).find()) {
            c.holds("rule 2: no class within a method: " + header.strip(), around.isEmpty() || around.equals("type"));
            c.holds("rule 2: a class inside is static: " + header.strip(),
                around.isEmpty() || header.matches("(?s).*\\b(static|enum|record|interface)\\b.*"));
            return "type";
        }
        if (around.equals("type") && header.contains("(")) {
            long commas = header.substring(header.indexOf('(')).chars().filter(ch -> ch == ',').count();
            c.holds("rule 11: parameters of " + header.strip(), commas < MOST_PARAMETERS);
            return "method";
        }
        return "block";
    }
}
