import java.nio.charset.StandardCharsets;
import java.util.ArrayList;
import java.util.Arrays;
import java.util.List;
import java.util.Map;
import java.util.Random;
import java.util.regex.Matcher;
import java.util.regex.Pattern;

/** Texts by chance, most of them spoilt: their faults against those that all faults, listed, tell. */
public final class RandomTextsTest {
    private static final Pattern TOKEN = Pattern.compile("[ \n]+|[a-z]+|[0-9]+|.", Pattern.DOTALL);
    private static final Map<String, Integer> TOWN = Map.ofEntries(
            Map.entry("places", 1), Map.entry("road", 4), Map.entry("short", 2), Map.entry("cheap", 2),
            Map.entry("own", 2), Map.entry("errand", 4), Map.entry("has", 2), Map.entry("busy", 3),
            Map.entry("last", 0), Map.entry("first", 0), Map.entry("noon", 1), Map.entry("none", 0));
    private static final Map<String, Integer> DAY = Map.of("go", 2, "wait", 1);
    private static final String[] BITS = {"places", "road", "short", "cheap", "own", "errand", "has", "busy", "last",
        "first", "noon", "none", "go", "wait", ";", ";;", " ", "\n", "\t", "0", "1", "2", "9", "31", "007", "100", "101",
        "359", "360", "0000", "1000", "roads", "x", "Z", "-", "\u00e9", "\0", "8", "99", "30", "6", "14", "13"};

    private static final class Line {
        String word;
        int place;
        List<Integer> numbers = new ArrayList<>();
        List<Integer> places = new ArrayList<>();
    }

    public static void main(String[] args) {
        Due due = new Due("random texts");
        int[] seen = new int[5];
        for (int seed = 1; seed <= 60000; seed++) {
            Random random = new Random(seed);
            int sort = random.nextInt(3) == 0 ? 1 : 0;
            String text = spoil(sort == 0 ? aTown(random) : aDay(random), random);
            int[] want = faultOf(text, sort);
            seen[want[0]]++;
            LastWalker x = new LastWalker();
            Due.tape(x, text.getBytes(StandardCharsets.ISO_8859_1));
            String call = "seed " + seed + " sort " + sort + " of \"" + text + "\"";
            due.is(call + " text", x.text(sort, LastWalker.NONE), want[0] == 0 ? 0 : -1);
            due.is(call + " fault", x.fault(0), want[0]);
            due.is(call + " place", x.fault(1), want[1]);
            due.is(call + " count", x.count(sort), want[0] == 0 ? 1 : 0);
            due.is(call + " tape", x.end(1), -1);
        }
        System.out.println("faults 0 to 4 came " + Arrays.toString(seen) + " times");
        for (int f = 0; f <= 4; f++) due.is("fault " + f + " came often", seen[f] > 500, true);
        due.end();
    }

    private static int[] faultOf(String text, int sort) {
        Map<String, Integer> words = sort == 0 ? TOWN : DAY;
        List<Line> lines = new ArrayList<>();
        Line line = null;
        Matcher m = TOKEN.matcher(text);
        while (m.find()) {
            String token = m.group();
            if (token.isBlank() && token.matches("[ \n]+")) continue;
            boolean goes;
            if (line == null) {
                goes = words.containsKey(token);
                line = new Line();
                line.word = token;
                line.place = m.start();
            } else if (line.numbers.size() < words.get(line.word)) {
                goes = token.matches("[0-9]{1,3}");
                if (goes) {
                    line.numbers.add(Integer.parseInt(token));
                    line.places.add(m.start());
                }
            } else {
                goes = token.equals(";");
                lines.add(line);
                line = null;
            }
            if (!goes) return new int[] {1, m.start()};
        }
        if (line != null) return new int[] {1, text.length()};
        return sort == 0 ? townFault(lines, text.length()) : dayFault(lines);
    }

    private static int[] least(List<int[]> faults) {
        faults.sort((a, b) -> a[1] != b[1] ? Integer.compare(a[1], b[1]) : Integer.compare(a[0], b[0]));
        return faults.isEmpty() ? new int[] {0, -1} : faults.get(0);
    }

    private static void look(List<int[]> faults, Line l, int i, int from, int to) {
        if (l.numbers.get(i) < from || l.numbers.get(i) > to) faults.add(new int[] {2, l.places.get(i)});
    }

    private static int[] townFault(List<Line> lines, int end) {
        List<int[]> faults = new ArrayList<>();
        int places = 4;
        int roads = 0;
        int people = 0;
        int errands = 0;
        int highest = 0;
        for (Line l : lines) {
            switch (l.word) {
                case "places" -> {
                    look(faults, l, 0, 2, 9);
                    places = l.numbers.get(0);
                }
                case "road" -> {
                    look(faults, l, 0, 0, 8);
                    look(faults, l, 1, 0, 8);
                    look(faults, l, 2, 1, 30);
                    look(faults, l, 3, 0, 99);
                    if (l.numbers.get(0).equals(l.numbers.get(1))) faults.add(new int[] {2, l.places.get(1)});
                    if (++roads > 14) faults.add(new int[] {3, l.place});
                    highest = Math.max(highest, Math.max(l.numbers.get(0), l.numbers.get(1)));
                }
                case "short", "cheap", "own" -> {
                    look(faults, l, 0, 0, 8);
                    look(faults, l, 1, 0, 9);
                    if (++people > 8) faults.add(new int[] {3, l.place});
                    highest = Math.max(highest, l.numbers.get(0));
                }
                case "errand" -> {
                    look(faults, l, 0, 0, people - 1);
                    look(faults, l, 1, 0, 8);
                    look(faults, l, 2, 0, 359);
                    look(faults, l, 3, 0, 100);
                    if (++errands > 12) faults.add(new int[] {3, l.place});
                    highest = Math.max(highest, l.numbers.get(1));
                }
                case "has" -> {
                    look(faults, l, 0, 0, people - 1);
                    look(faults, l, 1, 0, roads - 1);
                }
                case "busy" -> {
                    look(faults, l, 0, 0, roads - 1);
                    look(faults, l, 1, 0, 5);
                    look(faults, l, 2, 0, 100);
                }
                default -> { }
            }
        }
        if (faults.isEmpty() && highest >= places) return new int[] {4, end};
        return least(faults);
    }

    private static int[] dayFault(List<Line> lines) {
        List<int[]> faults = new ArrayList<>();
        int moves = 0;
        for (Line l : lines) {
            if (l.word.equals("go")) {
                look(faults, l, 0, 0, 7);
                look(faults, l, 1, 0, 13);
            } else {
                look(faults, l, 0, 1, 999);
            }
            if (++moves > 40) faults.add(new int[] {3, l.place});
        }
        return least(faults);
    }

    private static String aTown(Random random) {
        StringBuilder s = new StringBuilder();
        int places = 2 + random.nextInt(8);
        int upTo = random.nextInt(4) == 0 ? Math.min(9, places + 1) : places;
        if (places != 4 || random.nextBoolean()) s.append("places ").append(places).append(";");
        int lines = random.nextInt(random.nextInt(4) == 0 ? 60 : 12);
        int like = random.nextInt(8);
        int roads = 0;
        int people = 0;
        for (int i = 0; i < lines; i++) {
            int sort = random.nextInt(4) == 0 ? like : random.nextInt(8);
            int a = random.nextInt(upTo);
            int b = (a + 1 + random.nextInt(upTo - 1)) % upTo;
            if (sort == 0 || roads == 0) {
                s.append("road ").append(a).append(' ').append(b).append(' ').append(1 + random.nextInt(30)).append(" 5;");
                roads++;
            } else if (sort == 1 || people == 0) {
                s.append(random.nextBoolean() ? "own" : "cheap ").append(a).append("\n ").append(random.nextInt(10)).append(" ;");
                people++;
            } else if (sort <= 3) {
                s.append("errand ").append(random.nextInt(people)).append(' ').append(b).append(" 5 ").append(random.nextInt(101)).append(';');
            } else if (sort == 4) {
                s.append("has ").append(random.nextInt(people)).append(' ').append(random.nextInt(roads)).append(';');
            } else if (sort == 5) {
                s.append("busy ").append(random.nextInt(roads)).append(' ').append(random.nextInt(6)).append(" 50;");
            } else {
                s.append(random.nextBoolean() ? "last;" : "noon " + random.nextInt(1000) + ";");
            }
        }
        return s.toString();
    }

    private static String aDay(Random random) {
        StringBuilder s = new StringBuilder();
        int moves = random.nextInt(random.nextInt(4) == 0 ? 45 : 10);
        for (int i = 0; i < moves; i++) {
            s.append(random.nextBoolean() ? "wait " + (1 + random.nextInt(999)) + ";"
                    : "go " + random.nextInt(8) + " " + random.nextInt(14) + ";");
        }
        return s.toString();
    }

    private static String spoil(String text, Random random) {
        StringBuilder s = new StringBuilder(text);
        int times = random.nextInt(3);
        for (int i = 0; i < times; i++) {
            int at = random.nextInt(s.length() + 1);
            int what = random.nextInt(4);
            if (what == 0 && at < s.length()) s.deleteCharAt(at);
            else if (what == 1) s.insert(at, BITS[random.nextInt(BITS.length)]);
            else if (what == 2 && at < s.length() && Character.isDigit(s.charAt(at))) s.setCharAt(at, (char) ('0' + random.nextInt(10)));
            else if (what == 3 && random.nextInt(4) == 0) s.setLength(at);
        }
        if (s.length() > 600) s.setLength(600);
        return s.toString();
    }
}
