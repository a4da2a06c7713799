import java.nio.file.Files;
import java.nio.file.Path;
import java.util.regex.Matcher;
import java.util.regex.Pattern;

/** The source keeps to those rules of LANGUAGE.md that a look at its words can tell. */
public final class LanguageTest {
    private static final String[] NEVER = {
        "\\bthrow\\b", "\\btry\\b", "\\bcatch\\b", "\\bsynchronized\\b", "\\bassert\\b", "->", "::", "\\bimport static\\b",
        "\\bprotected\\b", "Exact\\(", "\\bpackage\\b", "\\bvar\\b", "\\bObject\\b", "\\bSystem\\.(?!arraycopy)",
        "\\bArrays\\.(?!fill|copyOf|copyOfRange)", "\\bdouble\\b", "\\bfloat\\b", "\\bstatic \\{", "\\bvolatile\\b",
        "[^\\x00-\\x7f]", "\\bimport java\\.(?!util\\.Arrays;)", "\\bstatic (?!final)(int|long|boolean|char|String)(\\[\\])? \\w+( =|;)",
    };

    public static void main(String[] args) throws Exception {
        Due due = new Due("language");
        String source = Files.readString(Path.of("src/main/java/LastWalker.java"));
        String code = source.replaceAll("(?s)/\\*.*?\\*/", "").replaceAll("//[^\n]*", "");
        for (String never : NEVER) {
            Matcher m = Pattern.compile(never).matcher(code);
            due.is("never " + never, m.find(), false);
        }
        int classes = 0;
        Matcher c = Pattern.compile("\\bclass \\w+").matcher(code);
        while (c.find()) classes++;
        due.is("at most twelve classes", classes <= 12, true);
        int longest = longestMethod(code.split("\n"));
        System.out.println("the longest method has " + longest + " lines");
        due.is("the longest method", longest > 10 && longest <= 60, true);
        due.end();
    }

    /** Lines from a method's head to the brace that stands as far in as it does. */
    private static int longestMethod(String[] lines) {
        int longest = 0;
        String in = "";
        int from = -1;
        for (int i = 0; i < lines.length; i++) {
            Matcher head = Pattern.compile("^( {4}| {8})(public|private|static|int|void|long|boolean|[A-Z]).*\\(.*$").matcher(lines[i]);
            if (from < 0 && head.find() && !lines[i].contains("=")) {
                in = head.group(1);
                from = i;
            }
            if (from >= 0 && lines[i].equals(in + "}")) {
                longest = Math.max(longest, i - from + 1);
                from = -1;
            }
        }
        return longest;
    }
}
