import java.io.IOException;
import java.nio.file.Files;
import java.nio.file.Path;
import java.util.ArrayList;
import java.util.Arrays;
import java.util.List;
import java.util.Map;
import java.util.TreeMap;
import java.util.regex.Matcher;
import java.util.regex.Pattern;
import java.util.stream.Stream;

/**
 * The words that tests quote by sentence(..) stand in ../shared/DOC.md, and together they are all that it says: from
 * THE RING of "What it is" over "Terms" to promise 31 no word is left that no test quotes. A method promise5..() quotes
 * promise 5, one with another name the words ahead of the promises.
 */
public final class SentencesTest {
    private static final Path DOCUMENT = Path.of("../shared/DOC.md");
    private static final Path TESTS = Path.of("src/test/java");
    private static final int PROMISES = 31;
    private static final Pattern SECTION = Pattern.compile("## Promise (\\d+): [^\n]*\n+`[^`]*`: ([^#]*)");
    // What is no sentence: the headline of all, headings, the face, fences, whose turn it is to be told.
    private static final String NO_SENTENCES = "(?s)^.*?(?=THE RING has)|```java.*?```|(?m:^## [^\n]*$)|```(text)?|======== \\d"
        + "|Ahead of the calls [^\n]* the interface says: ---- [a-z, ]+[:.]";
    private static final Pattern METHOD_OR_QUOTE = Pattern.compile(
        "void (\\w+)\\(|\\bc\\.sentence\\(((?:\"(?:[^\"\\\\]|\\\\.)*\"|\\s|\\+)+)\\)");
    private static final Check c = new Check("SentencesTest");

    public static void main(String[] args) throws IOException {
        Map<Integer, String> sections = sections(Files.readString(DOCUMENT));
        Map<Integer, char[]> left = new TreeMap<>();
        sections.forEach((section, words) -> left.put(section, words.toCharArray()));
        c.due("how many promises", sections.size() - 1, PROMISES);
        for (Path test : tests()) {
            Matcher found = METHOD_OR_QUOTE.matcher(Files.readString(test));
            int section = 0;
            while (found.find()) {
                if (found.group(1) != null) {
                    section = sectionOf(found.group(1));
                } else {
                    String quote = joined(found.group(2));
                    boolean stands = sections.getOrDefault(section, "").contains(quote);
                    c.holds(test.getFileName() + ", promise " + section + ": it says \"" + quote + "\"", stands);
                    strike(sections.getOrDefault(section, ""), left.get(section), quote);
                }
            }
        }
        left.forEach((section, rest) -> c.same("what no test quotes of promise " + section, wordsIn(rest), ""));
        c.finish();
    }

    /** Behind 0: the words ahead of the promises. */
    private static Map<Integer, String> sections(String document) {
        Map<Integer, String> sections = new TreeMap<>();
        Matcher promise = SECTION.matcher(document);
        while (promise.find()) {
            sections.put(Integer.valueOf(promise.group(1)), flat(promise.group(2)));
        }
        int first = document.indexOf("## Promise 1:");
        sections.put(0, flat(document.substring(0, Math.max(0, first)).replaceAll(NO_SENTENCES, " ")));
        return sections;
    }

    private static List<Path> tests() throws IOException {
        try (Stream<Path> files = Files.list(TESTS)) {
            return files.filter(file -> file.toString().endsWith("Test.java")).sorted().toList();
        }
    }

    private static String flat(String text) {
        return text.replaceAll("\\s+", " ").strip();
    }

    private static int sectionOf(String method) {
        Matcher promise = Pattern.compile("promise(\\d+).*").matcher(method);
        return promise.matches() ? Integer.parseInt(promise.group(1)) : 0;
    }

    private static String joined(String literals) {
        return literals.replaceAll("\"\\s*\\+\\s*\"", "").strip().replaceAll("^\"|\"$", "");
    }

    private static void strike(String words, char[] left, String quote) {
        for (int at = words.indexOf(quote); at >= 0 && !quote.isEmpty(); at = words.indexOf(quote, at + 1)) {
            Arrays.fill(left, at, at + quote.length(), ' ');
        }
    }

    private static String wordsIn(char[] left) {
        List<String> words = new ArrayList<>();
        Matcher word = Pattern.compile("\\w+").matcher(new String(left));
        while (word.find()) {
            words.add(word.group());
        }
        return String.join(" ", words);
    }
}
