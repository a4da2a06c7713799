import java.lang.reflect.Method;
import java.lang.reflect.Modifier;
import java.util.ArrayList;
import java.util.List;
import java.util.Random;

/** Any calls with any arguments, in any state: none throws, and the same calls answer the same. */
public final class AnyCallTest {
    private static final int[] EDGES = {Integer.MIN_VALUE, Integer.MAX_VALUE, -2, -1, 0, 1, 2, 3, 4, 5, 6, 7, 8, 9, 10, 11,
        12, 13, 14, 15, 23, 24, 30, 37, 38, 40, 47, 48, 59, 60, 100, 359, 360, 599, 600, 601, 999, 1000, 4095, 4096, 65535};

    public static void main(String[] args) throws Exception {
        Due due = new Due("any calls");
        List<Method> calls = new ArrayList<>();
        for (Method m : LastWalker.class.getDeclaredMethods()) {
            if (Modifier.isPublic(m.getModifiers())) calls.add(m);
        }
        calls.sort((a, b) -> a.getName().compareTo(b.getName()));
        for (int seed = 1; seed <= 300; seed++) {
            due.is("seed " + seed, play(calls, seed), play(calls, seed));
        }
        due.end();
    }

    private static long play(List<Method> calls, int seed) throws Exception {
        Random random = new Random(seed);
        LastWalker x = new LastWalker();
        long mixed = 17;
        if (seed % 4 != 0) {
            Oracle.OTown t = Oracle.randomTown(random);
            mixed += Due.town(x, Oracle.tell(t, random));
            mixed += Due.day(x, Oracle.tell(Oracle.randomDay(random, t)));
        }
        for (int i = 0; i < 400; i++) {
            Method m = calls.get(random.nextInt(calls.size()));
            Object[] with = new Object[m.getParameterCount()];
            boolean near = random.nextInt(3) != 0;
            for (int k = 0; k < with.length; k++) {
                boolean truth = m.getParameterTypes()[k] == boolean.class;
                with[k] = truth ? (Object) random.nextBoolean() : (Object) number(random, near);
            }
            Object answer = m.invoke(x, with);
            mixed = mixed * 31 + (answer instanceof Boolean b ? (b ? 1 : 0) : ((Number) answer).longValue());
        }
        return mixed;
    }

    private static int number(Random random, boolean near) {
        if (near) return random.nextInt(5) - 1;
        return random.nextInt(6) == 0 ? random.nextInt() : EDGES[random.nextInt(EDGES.length)];
    }
}
