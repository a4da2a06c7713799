import java.lang.reflect.Constructor;
import java.lang.reflect.Field;
import java.lang.reflect.Method;
import java.lang.reflect.Modifier;
import java.util.Set;
import java.util.TreeSet;

/** The class has the document's face, and nothing else that others can see. */
public final class FaceTest {
    private static final String[] FACE = {
        "int feed(int,int,int,int,int)", "int end(int)", "int text(int,int)", "int fault(int)",
        "int town(int,int)", "int road(int,int,int)", "int person(int,int,int)",
        "int errand(int,int,int)", "int move(int,int,int)", "int run(int,int,int)",
        "int state(int,int,int,int)", "int paid(int,int,int,int,int)", "int brings(int,int,int,int)",
        "long worth(int,int,int)", "int way(int,int,int,int,int,int,int,int,int)",
        "long cost(int,int,int,int,int,int,int,int,boolean)", "int round(int,int,int,int,int,int,int)",
        "long gain(int,int,int,int,int,int)", "int all(int,int,int,int)", "int night(int,int,int,int)",
        "int other(int,int,int,int)", "int turned(int,int,int,int)", "int regret(int,int,int)",
        "int sooner(int,int)", "int rests(int,int,boolean)", "int free(int,int)", "int needs(int,int)",
        "int live(int,int,boolean)", "int left(int,int)", "int minutes(int,int,int)",
        "int days(int,int,int,int)", "int visits(int,int,int,boolean)", "int whole(int,int,int)",
        "int still(int,int,int)", "int house(int,int,int,boolean)", "int moved(int,int,int,int)",
        "int without(int,int,int)", "int rounds(int,int,int,int,int,int)", "int count(int)",
        "boolean image(int)", "boolean again(int)",
    };

    public static void main(String[] args) {
        Due due = new Due("face");
        Set<String> want = new TreeSet<>(Set.of(FACE));
        Set<String> got = new TreeSet<>();
        Set<String> names = new TreeSet<>();
        for (Method m : LastWalker.class.getDeclaredMethods()) {
            if (Modifier.isPublic(m.getModifiers())) {
                got.add(signature(m));
                names.add(m.getName());
            }
        }
        System.out.println(want.equals(got) ? "the methods are the document's" : "due " + want + " got " + got);
        due.is("methods", want.equals(got), true);
        for (Method m : LastWalker.class.getDeclaredMethods()) {
            boolean seen = Modifier.isPublic(m.getModifiers());
            due.is(m + " is public or private", seen || Modifier.isPrivate(m.getModifiers()), true);
            due.is(m + " bears no public name", seen || !names.contains(m.getName()), true);
            due.is(m + " takes seven at most", seen || m.getParameterCount() <= 7, true);
        }
        for (Field f : LastWalker.class.getDeclaredFields()) {
            boolean constant = f.getName().equals("NONE");
            due.is(f + " is seen", Modifier.isPublic(f.getModifiers()), constant);
            due.is(f + " is private", Modifier.isPrivate(f.getModifiers()), !constant);
        }
        Constructor<?>[] made = LastWalker.class.getDeclaredConstructors();
        due.is("constructors", made.length, 1);
        due.is("constructor's arguments", made[0].getParameterCount(), 0);
        due.is("constructor is public", Modifier.isPublic(made[0].getModifiers()), true);
        due.is("final", Modifier.isFinal(LastWalker.class.getModifiers()), true);
        for (Class<?> c : LastWalker.class.getDeclaredClasses()) {
            due.is(c + " is static", Modifier.isStatic(c.getModifiers()), true);
            due.is(c + " is not public", Modifier.isPublic(c.getModifiers()), false);
            for (Method m : c.getDeclaredMethods()) {
                due.is(m + " bears no public name", names.contains(m.getName()), false);
                due.is(m + " takes seven at most", m.getParameterCount() <= 7, true);
            }
        }
        due.is("NONE", LastWalker.NONE, -1);
        due.end();
    }

    private static String signature(Method m) {
        StringBuilder s = new StringBuilder(m.getReturnType().getName() + " " + m.getName() + "(");
        for (int i = 0; i < m.getParameterCount(); i++) {
            s.append(i == 0 ? "" : ",").append(m.getParameterTypes()[i].getName());
        }
        return s.append(")").toString();
    }
}
