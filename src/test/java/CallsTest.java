import java.io.PrintWriter;
import java.io.StringWriter;
import java.nio.file.Files;
import java.nio.file.Path;
import java.util.ArrayList;
import java.util.HashMap;
import java.util.List;
import java.util.Map;
import java.util.Optional;
import java.util.Set;
import java.util.TreeSet;
import java.util.regex.Matcher;
import java.util.regex.Pattern;
import java.util.spi.ToolProvider;
import java.util.stream.Stream;

/** By the compiled class: how deep calls go, which library it uses, and which methods call themselves. */
public final class CallsTest {
    private static final int DEEPEST = 8;
    private static final Set<String> LIBRARY = Set.of("java/lang/Object.<init>", "java/lang/Math.max", "java/lang/Math.min",
        "java/lang/Integer.bitCount", "java/lang/String.charAt", "java/lang/String.length", "java/lang/System.arraycopy",
        "java/util/Arrays.fill");
    private static final Set<String> RECURSIVE = Set.of("LastWalker$Hunt.goOn", "LastWalker$Hunt.goAround");

    private final Map<String, Set<String>> calls = new HashMap<>();
    private final Map<String, Integer> depths = new HashMap<>();

    public static void main(String[] args) throws Exception {
        Due due = new Due("calls");
        Optional<ToolProvider> javap = ToolProvider.findFirst("javap");
        if (javap.isEmpty()) {
            System.out.println("there is no javap here: calls are not looked at");
            return;
        }
        CallsTest test = new CallsTest();
        test.read(javap.get());
        test.look(due);
        due.end();
    }

    private void read(ToolProvider javap) throws Exception {
        Path classes = Path.of(LastWalker.class.getProtectionDomain().getCodeSource().getLocation().toURI());
        List<String> names = new ArrayList<>();
        try (Stream<Path> files = Files.list(classes)) {
            files.map(f -> f.getFileName().toString()).filter(f -> f.matches("LastWalker(\\$\\w+)?\\.class")).forEach(names::add);
        }
        for (String name : names) {
            StringWriter out = new StringWriter();
            javap.run(new PrintWriter(out), new PrintWriter(out), "-c", "-p", classes.resolve(name).toString());
            readClass(name.replace(".class", ""), out.toString());
        }
    }

    private void readClass(String name, String text) {
        String method = "";
        for (String line : text.split("\n")) {
            Matcher head = Pattern.compile("^  (?=\\S)(?:.* )?([\\w.$]+)\\(.*\\);$").matcher(line);
            Matcher call = Pattern.compile("// (?:Interface)?Method ([^:]+):").matcher(line);
            if (head.find()) {
                method = name + "." + (head.group(1).startsWith("LastWalker") ? "<init>" : head.group(1));
                calls.computeIfAbsent(method, k -> new TreeSet<>());
            } else if (call.find() && !method.isEmpty()) {
                String to = call.group(1).replace("\"", "");
                calls.get(method).add(to.contains(".") ? to : name + "." + to);
            }
        }
    }

    private void look(Due due) {
        due.is("methods are seen", calls.size() > 100, true);
        int deepest = 0;
        for (Map.Entry<String, Set<String>> method : calls.entrySet()) {
            for (String to : method.getValue()) {
                due.is(method.getKey() + " may call " + to, calls.containsKey(to) || LIBRARY.contains(to), true);
            }
            boolean again = method.getValue().contains(method.getKey());
            due.is(method.getKey() + " calls itself", again, RECURSIVE.contains(method.getKey()));
            int depth = depthOf(method.getKey(), 0);
            due.is(method.getKey() + " goes " + depth + " deep", depth <= DEEPEST, true);
            deepest = Math.max(deepest, depth);
        }
        System.out.println("calls go " + deepest + " deep");
    }

    private int depthOf(String method, int above) {
        if (above > 50) return above; // Methods that call one another.
        Integer known = depths.get(method);
        if (known != null) return known;
        int deepest = 0;
        for (String to : calls.getOrDefault(method, Set.of())) {
            if (!to.equals(method)) deepest = Math.max(deepest, depthOf(to, above + 1));
        }
        depths.put(method, deepest + 1);
        return deepest + 1;
    }
}
