import java.io.IOException;
import java.nio.ByteBuffer;
import java.nio.charset.StandardCharsets;
import java.nio.file.Files;
import java.nio.file.Path;
import java.util.ArrayList;
import java.util.Arrays;
import java.util.List;

/** The lines of README.md that use the class stand here too, and answer what they say. */
public final class ReadmeTest {
    private static final Path README = Path.of("README.md");
    private static final Path HERE = Path.of("src/test/java/ReadmeTest.java");

    public static void main(String[] args) throws IOException {
        Due due = new Due("readme");
        useAsTold(due);
        List<String> here = Files.readAllLines(HERE).stream().map(String::strip).toList();
        List<String> told = javaLines(Files.readAllLines(README));
        due.is("README.md has lines of Java", told.size() > 20, true);
        for (String line : told) due.is("README.md's line is run here: " + line, here.contains(line), true);
        String readme = Files.readString(README);
        for (var call : LastWalker.class.getDeclaredMethods()) {
            boolean seen = java.lang.reflect.Modifier.isPublic(call.getModifiers());
            due.is("README.md names " + call.getName(), !seen || readme.contains("`" + call.getName() + "`"), true);
        }
        due.is("README.md tells how to run the tests", readme.contains("\n.ci/run\n"), true);
        due.end();
    }

    private static List<String> javaLines(List<String> readme) {
        List<String> lines = new ArrayList<>();
        boolean in = false;
        for (String line : readme) {
            if (line.startsWith("```")) in = line.equals("```java");
            else if (in && !line.isBlank()) lines.add(line.replaceFirst("^static ", "private static ").strip());
        }
        return lines;
    }

    private static void feed(LastWalker x, String text) {
        byte[] padded = Arrays.copyOf(text.getBytes(StandardCharsets.ISO_8859_1), (text.length() + 19) / 20 * 20);
        ByteBuffer b = ByteBuffer.wrap(padded);
        while (b.hasRemaining()) {
            x.feed(b.getInt(), b.getInt(), b.getInt(), b.getInt(), b.getInt());
        }
        x.end(text.length());
    }

    private static void useAsTold(Due due) {
        LastWalker x = new LastWalker();
        feed(x, "places 3;road 0 1 10 4;road 1 2 5 3;road 0 2 20 2;own 0 1;cheap 0 2;short 2 0;"
                + "errand 0 2 0 100;errand 1 2 60 100;errand 2 0 90 100;busy 0 1 50;has 2 1;last;");
        int town = x.text(0, LastWalker.NONE); // 0: the first town; NONE: fault(0) at fault(1)
        feed(x, "go 0 0;wait 10;go 0 1;go 2 1;wait 3;go 1 0;");
        int day = x.text(1, LastWalker.NONE); // 0: the first day

        int done = x.run(town, day, 0); // 6: every move can be
        int whose = x.state(town, day, done, 10); // 1: road 0 is his behind them
        int paid = x.paid(town, day, done, 1, 0); // 4: for road 0, which was another one's

        int first = x.way(town, LastWalker.NONE, 0, 0, 2, 0, 0, 2, 10); // 0: road 0 is the first of the best way
        long cost = x.cost(town, LastWalker.NONE, 0, 0, 2, 0, 0, 2, false); // 16000000000000: 16, times 100 to the 6

        int walked = x.all(town, 7, LastWalker.NONE, 0); // 45: by errands 0, 1 and 2 (bits) together
        int night = x.night(town, 7, 1, LastWalker.NONE); // 2: whose road 1 is behind them

        due.is("town", town, 0);
        due.is("day", day, 0);
        due.is("done", done, 6);
        due.is("whose", whose, 1);
        due.is("paid", paid, 4);
        due.is("first", first, 0);
        due.is("cost", cost, 16000000000000L);
        due.is("walked", walked, 45);
        due.is("night", night, 2);
    }
}
