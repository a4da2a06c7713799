import java.io.IOException;
import java.nio.file.Files;
import java.nio.file.Path;
import java.util.ArrayList;
import java.util.HashMap;
import java.util.LinkedHashMap;
import java.util.List;
import java.util.Map;
import java.util.regex.Matcher;
import java.util.regex.Pattern;

/**
 * The sentences of the document that are tested, and the answers due by each: words that the document
 * does not say, words without an answer, and sentences of it without a test are wrong too.
 */
final class Sentences {
    /** The end of a sentence, but not the dots of "0 .. 7". */
    private static final Pattern BETWEEN = Pattern.compile("(?<=[A-Za-z0-9)}]\\.) +");

    private final Due due = new Due("boundaries");
    /** "Promise 4" or "Term 1", and what stands there. */
    private final Map<String, String> sections = new LinkedHashMap<>();
    private final Map<String, List<String>> tested = new HashMap<>();
    private String open = "";
    private int answers = 0;

    Sentences(Path document) throws IOException {
        if (!Files.exists(document)) {
            System.out.println("there is no " + document + ": the words are not looked up, the answers are");
            return;
        }
        String section = "";
        for (String line : Files.readAllLines(document)) {
            Matcher promise = Pattern.compile("^## (Promise \\d+):.*").matcher(line);
            Matcher term = Pattern.compile("^(\\d)\\. .*").matcher(line);
            if (promise.matches()) section = promise.group(1);
            else if (line.startsWith("## ")) section = line.equals("## Terms") ? "Term 0" : "";
            else if (section.startsWith("Term") && term.matches()) section = "Term " + term.group(1);
            else if (line.startsWith("The constants:")) section = "";
            if (!section.isEmpty() && !line.startsWith("##") && !line.startsWith("```")) {
                String said = line.replaceFirst("^`[^`]*`: |^\\d\\. ", "").strip();
                sections.merge(section, said, (a, b) -> (a + " " + b).strip());
            }
        }
        sections.remove("Term 0");
        due.is("the document has 42 promises and 5 terms", sections.size(), 47);
    }

    /** The answers from here on are due by these words of a promise. */
    void promise(int number, String words) {
        begin("Promise " + number, words);
    }

    /** The answers from here on are due by these words of a term. */
    void term(int number, String words) {
        begin("Term " + number, words);
    }

    private void begin(String section, String words) {
        close();
        open = section + " \"" + words + "\" ";
        answers = 0;
        due.is(open + "is said", sections.isEmpty() || sections.getOrDefault(section, "").contains(words), true);
        tested.computeIfAbsent(section, k -> new ArrayList<>()).add(words);
    }

    private void close() {
        if (!open.isEmpty()) due.is(open + "has answers", answers > 0, true);
    }

    void is(String call, long got, long want) {
        answers++;
        due.is(open + call, got, want);
    }

    void is(String call, boolean got, boolean want) {
        is(call, got ? 1 : 0, want ? 1 : 0);
    }

    /** A new object with a town and days that must stand. */
    LastWalker told(String town, String... days) {
        LastWalker x = new LastWalker();
        due.is("told " + town, Due.town(x, town), 0);
        for (int i = 0; i < days.length; i++) due.is("told " + days[i], Due.day(x, days[i]), i);
        return x;
    }

    void end() {
        close();
        for (Map.Entry<String, String> section : sections.entrySet()) {
            List<String> words = tested.getOrDefault(section.getKey(), List.of());
            for (String sentence : BETWEEN.split(section.getValue())) {
                boolean has = words.stream().anyMatch(w -> sentence.contains(w) || w.contains(sentence));
                due.is(section.getKey() + " has a test of \"" + sentence + "\"", has, true);
            }
        }
        due.end();
    }
}
