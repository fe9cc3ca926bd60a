import java.io.IOException;
import java.nio.file.Files;
import java.nio.file.Path;
import java.util.regex.Matcher;
import java.util.regex.Pattern;

/** The rules of ../shared/LANGUAGE.md that can be seen in the text of the class. */
public final class LanguageTest {
    private static final String[] FORBIDDEN = {
        "\\b(import|package|throw|throws|try|catch|finally|synchronized|assert|volatile|native|protected)\\b",
        "->", "::", "@", "\\bvar\\b", "\\bobject\\b", "\\.hashCode\\(", "\\.toString\\(", "\\.equals\\(",
        "Exact\\(", "\\bstatic\\s*\\{", "\\[\\]\\s*\\[\\]", "\\bdouble\\b", "\\bfloat\\b",
    };
    private static final String LIBRARY = "\\b(System|Math|Arrays|Integer|Long|String|StringBuilder|List|ArrayList|Object|Thread|Runtime)\\.?(\\w*)";
    private static final int MOST_LINES = 60;
    private static final Check c = new Check("LanguageTest");

    public static void main(String[] args) throws IOException {
        String text = Files.readString(Path.of("src/main/java/GallopingRing.java"));
        String code = text.replaceAll("(?s)/\\*.*?\\*/", "").replaceAll("//[^\n]*", "");
        c.holds("the file is of characters 0 to 127", text.chars().allMatch(ch -> ch < 128));
        for (String pattern : FORBIDDEN) {
            Matcher found = Pattern.compile(pattern).matcher(code);
            c.holds("nothing like " + pattern + " stands in the class", !found.find());
        }
        library(code);
        lengths(code);
        c.holds("at most twelve classes", Pattern.compile("\\bclass\\b").matcher(code).results().count() <= 12);
        c.finish();
    }

    private static void library(String code) {
        Matcher used = Pattern.compile(LIBRARY).matcher(code);
        while (used.find()) {
            String call = used.group(1) + "." + used.group(2);
            c.holds(call + " is in the library", call.equals("System.arraycopy") || call.equals("Math.abs"));
        }
    }

    /** A method is what opens behind a closing bracket at its indentation, and ends with a brace there. */
    private static void lengths(String code) {
        Matcher method = Pattern.compile("(?m)^( {4}| {8})(public|private)[^;={]*\\([^;{]*\\) \\{\n((?:.*\n)*?)\\1\\}$").matcher(code);
        int methods = 0;
        while (method.find()) {
            methods++;
            long lines = method.group(3).lines().count();
            c.holds("a method of " + lines + " lines is short", lines <= MOST_LINES);
        }
        c.holds("methods were found", methods > 60);
    }
}
