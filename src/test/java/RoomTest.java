import java.lang.management.ManagementFactory;
import java.util.Random;

/** All calls of a run live in one room: an object is small, and no call makes anything. */
public final class RoomTest {
    /** What the measuring itself may make. */
    private static final long SLACK = 4096;
    private static final long OBJECT = 64 * 1024;
    private static final com.sun.management.ThreadMXBean THREADS =
            (com.sun.management.ThreadMXBean) ManagementFactory.getThreadMXBean();

    private static long heard = 0;

    public static void main(String[] args) {
        Due due = new Due("room");
        Random random = new Random(5);
        // Loading the classes takes room once, which is not the object's.
        callAll(new LastWalker());
        for (int run = 0; run < 20; run++) {
            long before = THREADS.getCurrentThreadAllocatedBytes();
            LastWalker x = new LastWalker();
            long made = THREADS.getCurrentThreadAllocatedBytes() - before;
            due.is("run " + run + ": a new object takes " + made, made <= OBJECT, true);
            Oracle.OTown t = Oracle.fullTown(random);
            byte[] town = Oracle.tell(t, random).getBytes(java.nio.charset.StandardCharsets.ISO_8859_1);
            byte[] day = Oracle.tell(Oracle.randomDay(random, t)).getBytes(java.nio.charset.StandardCharsets.ISO_8859_1);
            Due.tape(x, town);
            due.is("run " + run + ": text of a town makes", bytesOf(() -> x.text(0, -1)) <= SLACK, true);
            Due.tape(x, day);
            due.is("run " + run + ": text of a day makes", bytesOf(() -> x.text(1, -1)) <= SLACK, true);
            due.is("run " + run + ": the town stands", x.count(0), 1);
            long bytes = bytesOf(() -> callAll(x));
            due.is("run " + run + ": 400 calls make " + bytes, bytes <= SLACK, true);
        }
        System.out.println("heard " + heard);
        due.end();
    }

    private static long bytesOf(Runnable calls) {
        long before = THREADS.getCurrentThreadAllocatedBytes();
        calls.run();
        return THREADS.getCurrentThreadAllocatedBytes() - before;
    }

    private static void callAll(LastWalker x) {
        int all = (1 << x.town(0, 3)) - 1;
        for (int i = 0; i < 8; i++) {
            heard += x.feed(i, i, i, i, i) + x.end(i) + x.fault(0) + x.town(0, i) + x.road(0, i, 3) + x.person(0, i, 1);
            heard += x.errand(0, i, 2) + x.move(0, i, 2) + x.run(0, 0, 1) + x.state(0, 0, i, 10) + x.paid(0, 0, i, 0, 1);
            heard += x.brings(0, 0, 0, i) + x.worth(0, i, 0) + x.way(0, -1, 0, i, 2, 0, 0, 1, 0) + x.cost(0, 0, 0, i, 2, 60, 1, 0, true);
            heard += x.round(0, -1, 0, i, 0, 0, 0) + x.gain(0, -1, 0, i, 0, 1) + x.rounds(0, -1, 0, i, 30, 1) + x.all(0, all, i, 4);
            heard += x.night(0, all, -1, i) + x.other(0, all, i & 3, 3) + x.turned(0, all, i, 2) + x.regret(0, all, i);
            heard += x.sooner(0, all) + x.rests(0, all, i % 2 == 0) + x.free(0, all) + x.needs(0, -1) + x.live(0, i, true);
            heard += x.left(0, 0) + x.minutes(0, 0, 1) + x.days(0, i, 30, 3) + x.visits(0, all, i, true) + x.whole(0, all, i & 3);
            heard += x.still(0, all, i) + x.house(0, all, i, false) + x.house(0, all, i, true) + x.moved(0, all, i, 100);
            heard += x.without(0, all, i) + x.count(1) + (x.image(i % 3) ? 1 : 0) + (x.again(i % 3) ? 1 : 0);
            heard += x.text(2, 0) + x.text(0, 5);
        }
    }
}
