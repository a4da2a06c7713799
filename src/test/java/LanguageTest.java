import java.nio.file.Files;
import java.nio.file.Path;
import java.util.regex.Matcher;
import java.util.regex.Pattern;

/** The source keeps to those rules of LANGUAGE.md that a look at its words can tell. */
public final class LanguageTest {
    private static final String[] NEVER = {
        "\\bthrow\\b", "\\btry\\b", "\\bcatch\\b", "\\bsynchronized\\b", "\\bassert\\b", "->", "::", "\\bimport static\\b",
        "\\bprotected\\b", "Exact\\(", "\\bpackage\\b", "\\bvar\\b", "\\bObject\\b", "\\bSystem\\.(?!arraycopy)",
        "\\bArrays\\.(?!fill|copyOf|copyOfRange)", "\\bdouble\\b", "\\bfloat\\b", "\\bstatic \\{", "\\bvolatile\\b",
        "[^\\x00-\\x7f]", "\\bimport java\\.(?!util\\.Arrays;)", "\\bstatic (?!final)(int|long|boolean|char|String)(\\[\\])? \\w+( =|;)",
    };

    public static void main(String[] args) throws Exception {
        Due due = new Due("language");
        String source = Files.readString(Path.of("src/main/java/LastWalker.java"));
        String code = source.replaceAll("(?s)/\\*.*?\\*/", "").replaceAll("//[^\n]*", "");
        for (String never : NEVER) {
            Matcher m = Pattern.compile(never).matcher(code);
            due.is("never " + never, m.find(), false);
        }
        int classes = 0;
        Matcher c = Pattern.compile("\\bclass \\w+").matcher(code);
        while (c.find()) classes++;
        due.is("at most twelve classes", classes <= 12, true);
        int depth = 0;
        int length = 0;
        int longest = 0;
        for (String line : code.split("\n")) {
            boolean opens = Pattern.compile("^ {4,8}[a-zA-Z].*\\) \\{$|^ {12}[a-zA-Z].*[^;]\\) \\{$").matcher(line).find();
            if (opens && depth <= 2) length = 0;
            length++;
            for (char ch : line.toCharArray()) depth += ch == '{' ? 1 : ch == '}' ? -1 : 0;
            if (line.matches("^ {4}\\}|^ {8}\\}") && depth <= 2) longest = Math.max(longest, length);
        }
        due.is("the longest method has " + longest + " lines", longest <= 60, true);
        due.end();
    }
}
