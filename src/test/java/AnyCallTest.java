import java.lang.reflect.Method;
import java.lang.reflect.Modifier;
import java.util.ArrayList;
import java.util.Collections;
import java.util.List;
import java.util.Random;
import java.util.Set;

/**
 * Any calls with any arguments, in any state: none throws, the same calls answer the same, and what is
 * only asked, or refused, changes nothing: asked in another order all is answered as before.
 */
public final class AnyCallTest {
    private static final int[] EDGES = {Integer.MIN_VALUE, Integer.MAX_VALUE, -2, -1, 0, 1, 2, 3, 4, 5, 6, 7, 8, 9, 10, 11,
        12, 13, 14, 15, 23, 24, 30, 37, 38, 40, 47, 48, 59, 60, 100, 359, 360, 599, 600, 601, 999, 1000, 4095, 4096, 65535};

    /** The calls that tell something; all others only ask. */
    private static final Set<String> TELLING = Set.of("feed", "end", "text", "image", "again");

    public static void main(String[] args) throws Exception {
        Due due = new Due("any calls");
        List<Method> calls = new ArrayList<>();
        for (Method m : LastWalker.class.getDeclaredMethods()) {
            if (Modifier.isPublic(m.getModifiers())) calls.add(m);
        }
        calls.sort((a, b) -> a.getName().compareTo(b.getName()));
        for (int seed = 1; seed <= 300; seed++) {
            due.is("seed " + seed, play(calls, seed), play(calls, seed));
        }
        calls.removeIf(m -> TELLING.contains(m.getName()));
        for (int seed = 1; seed <= 60; seed++) askTwice(due, calls, seed);
        due.end();
    }

    private record Asked(Method call, Object[] with, Object answer) {
        boolean isSame(LastWalker x) throws Exception {
            return call.invoke(x, with).equals(answer);
        }
    }

    private static void askTwice(Due due, List<Method> calls, int seed) throws Exception {
        Random random = new Random(seed);
        LastWalker x = new LastWalker();
        for (int i = 0; i < 2; i++) {
            Oracle.OTown t = random.nextBoolean() ? Oracle.fullTown(random) : Oracle.randomTown(random);
            Due.town(x, Oracle.tell(t, random));
            Due.day(x, Oracle.tell(Oracle.randomDay(random, t)));
        }
        List<Asked> asked = new ArrayList<>();
        for (int i = 0; i < 250; i++) {
            Method m = calls.get(random.nextInt(calls.size()));
            Object[] with = arguments(m, random, random.nextInt(5) != 0);
            asked.add(new Asked(m, with, m.invoke(x, with)));
        }
        Collections.shuffle(asked, random);
        for (Asked a : asked) due.is("seed " + seed + " " + a.call().getName() + " once more", a.isSame(x), true);
        due.is("seed " + seed + " refused feeds", refuse(x), true);
        for (Asked a : asked) due.is("seed " + seed + " " + a.call().getName() + " behind refused calls", a.isSame(x), true);
    }

    /** Calls that tell something, all of which are refused. */
    private static boolean refuse(LastWalker x) {
        boolean refused = x.end(1) == -1 && x.end(-1) == -1 && x.text(0, -1) == -2 && x.text(1, 2) == -2 && x.text(2, 0) == -2;
        Due.tape(x, "places 1;");
        refused &= x.text(0, 0) == -1 && x.fault(0) == 2;
        Due.tape(x, "lost;");
        refused &= x.text(1, 0) == -1 && x.fault(0) == 1;
        return refused & !x.image(3) & !x.again(0) & x.text(0, 2) == -2 & x.fault(0) == 0;
    }

    private static Object[] arguments(Method m, Random random, boolean near) {
        Object[] with = new Object[m.getParameterCount()];
        for (int k = 0; k < with.length; k++) {
            boolean truth = m.getParameterTypes()[k] == boolean.class;
            with[k] = truth ? (Object) random.nextBoolean() : (Object) number(random, near);
        }
        return with;
    }

    private static long play(List<Method> calls, int seed) throws Exception {
        Random random = new Random(seed);
        LastWalker x = new LastWalker();
        long mixed = 17;
        if (seed % 4 != 0) {
            Oracle.OTown t = Oracle.randomTown(random);
            mixed += Due.town(x, Oracle.tell(t, random));
            mixed += Due.day(x, Oracle.tell(Oracle.randomDay(random, t)));
        }
        for (int i = 0; i < 400; i++) {
            Method m = calls.get(random.nextInt(calls.size()));
            Object answer = m.invoke(x, arguments(m, random, random.nextInt(3) != 0));
            mixed = mixed * 31 + (answer instanceof Boolean b ? (b ? 1 : 0) : ((Number) answer).longValue());
        }
        return mixed;
    }

    private static int number(Random random, boolean near) {
        if (near) return random.nextInt(5) - 1;
        return random.nextInt(6) == 0 ? random.nextInt() : EDGES[random.nextInt(EDGES.length)];
    }
}
