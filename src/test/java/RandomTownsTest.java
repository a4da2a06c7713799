import java.util.ArrayList;
import java.util.List;
import java.util.Random;

/** Towns and days by chance: every answer of the class against the oracle's. */
public final class RandomTownsTest {
    private static final int NO_SUM = -100000;
    private static final Due due = new Due("random towns");
    /** The numbers of the town and of the day that are looked at. */
    private static int town = 0;
    private static int theDay = 0;

    public static void main(String[] args) {
        int first = args.length > 0 ? Integer.parseInt(args[0]) : 1;
        int many = args.length > 1 ? Integer.parseInt(args[1]) : 400;
        for (int seed = first; seed < first + many; seed++) {
            Random random = new Random(seed);
            boolean full = seed % 20 == 0;
            LastWalker x = new LastWalker();
            town = seed % 4 == 3 ? 1 : 0;
            theDay = seed % 4 == 2 ? 2 : 0;
            if (seed % 4 != 0) tellOthersFirst(x, random);
            Oracle.OTown t = full ? Oracle.fullTown(random) : Oracle.randomTown(random);
            String text = Oracle.tell(t, random);
            due.is("seed " + seed + " town " + text, Due.take(x, text, 0, x.count(0) == 0 ? -1 : town), town);
            List<int[]> day = Oracle.randomDay(random, t);
            String moves = Oracle.tell(day);
            due.is("seed " + seed + " day " + moves, Due.take(x, moves, 1, x.count(1) == 0 ? -1 : theDay), theDay);
            lookAtTelling(x, t, day, "seed " + seed);
            lookAtRun(x, t, day, "seed " + seed);
            for (int i = 0; i < 30; i++) lookAtWays(x, t, day, random, "seed " + seed);
            for (int i = 0; i < 4; i++) lookAtErrands(x, t, random, "seed " + seed);
            lookAtPlaces(x, t, "seed " + seed);
            lookAtDays(x, t, random, "seed " + seed);
        }
        due.end();
    }

    /** What was told before must leave nothing behind. */
    private static void tellOthersFirst(LastWalker x, Random random) {
        for (int i = 0; i < 2; i++) {
            Oracle.OTown t = i == 0 ? Oracle.fullTown(random) : Oracle.randomTown(random);
            due.is("another town", Due.town(x, Oracle.tell(t, random)), i);
            x.all(i, (1 << t.errands.size()) - 1, -1, 0);
        }
        for (int i = 0; i < 3; i++) {
            Oracle.OTown t = Oracle.randomTown(random);
            due.is("another day", Due.day(x, Oracle.tell(Oracle.randomDay(random, t))), i);
            x.run(0, i, 0);
        }
    }

    private static void lookAtTelling(LastWalker x, Oracle.OTown t, List<int[]> day, String on) {
        int[] figures = {t.places, t.roads.size(), t.people.size(), t.errands.size(), t.law, t.noon};
        for (int w = 0; w < 6; w++) due.is(on + " town " + w, x.town(town, w), figures[w]);
        for (int r = -1; r <= 14; r++) {
            boolean there = r >= 0 && r < t.roads.size();
            for (int w = 0; w < 4; w++) due.is(on + " road " + r + " " + w, x.road(town, r, w), there ? t.roads.get(r)[w] : -2);
            due.is(on + " road " + r + " 4", x.road(town, r, 4), there ? t.has[r] : -2);
            for (int h = 0; h < 6; h++) due.is(on + " busy " + r + " " + h, x.road(town, r, 10 + h), there ? t.busy[r][h] : -2);
            for (int h = -1; h <= 7; h++) {
                boolean ok = there && h >= 0 && h <= 6;
                due.is(on + " worth " + r + " " + h, x.worth(town, r, h), ok ? Oracle.worth(t, r, h) : -1);
            }
        }
        for (int p = -1; p <= 8; p++) {
            boolean there = p >= 0 && p < t.people.size();
            for (int w = 0; w < 3; w++) due.is(on + " person", x.person(town, p, w), there ? t.people.get(p)[w] : -1);
        }
        for (int e = -1; e <= 12; e++) {
            boolean there = e >= 0 && e < t.errands.size();
            for (int w = 0; w < 4; w++) due.is(on + " errand", x.errand(town, e, w), there ? t.errands.get(e)[w] : -1);
        }
        due.is(on + " moves", x.move(theDay, -1, 0), day.size());
        for (int m = 0; m < day.size(); m++) {
            int[] move = day.get(m);
            boolean wait = move.length == 1;
            due.is(on + " move", x.move(theDay, m, 0), wait ? 1 : 0);
            due.is(on + " move", x.move(theDay, m, 1), wait ? -1 : move[0]);
            due.is(on + " move", x.move(theDay, m, 2), wait ? move[0] : move[1]);
        }
    }

    private static void lookAtRun(LastWalker x, Oracle.OTown t, List<int[]> day, String on) {
        Oracle.OState end = Oracle.run(t, day, day.size());
        due.is(on + " stop", x.run(town, theDay, 0), end.done);
        due.is(on + " met", x.run(town, theDay, 1), end.met);
        for (int n = -1; n <= day.size() + 1; n++) {
            boolean there = n >= 0 && n <= end.done;
            Oracle.OState s = Oracle.run(t, day, Math.max(0, n));
            String here = on + " state " + n;
            due.is(here, x.state(town, theDay, n, 0), there ? s.clock : -2);
            due.is(here, x.state(town, theDay, n, 1), there ? s.paid : -2);
            for (int r = 0; r < 14; r++) {
                boolean ok = there && r < t.roads.size();
                due.is(here + " road " + r, x.state(town, theDay, n, 10 + r), ok ? s.owner[r] : -2);
                due.is(here + " brings " + r, x.brings(town, theDay, n, r), ok ? Oracle.brings(t, day, n, r) : -1);
            }
            for (int p = 0; p < 8; p++) {
                boolean ok = there && p < t.people.size();
                due.is(here + " place", x.state(town, theDay, n, 30 + p), ok ? s.place[p] : -2);
                due.is(here + " came", x.state(town, theDay, n, 40 + p), ok ? s.came[p] : -2);
                for (int q = 0; q < 8; q++) {
                    boolean both = ok && q < t.people.size();
                    due.is(here + " paid", x.paid(town, theDay, n, p, q), both ? s.pays[p][q] : -1);
                }
            }
        }
    }

    private static void lookAtWays(LastWalker x, Oracle.OTown t, List<int[]> day, Random random, String seed) {
        boolean noDay = random.nextInt(4) == 0;
        int d = noDay ? -1 : theDay;
        int n = noDay ? random.nextInt(6) / 5 : random.nextInt(day.size() + 1);
        int p = random.nextInt(t.people.size() + 1) - random.nextInt(8) / 7;
        int kind = random.nextInt(3) + random.nextInt(20) / 19;
        int minute = random.nextInt(random.nextBoolean() ? 100 : 400) + random.nextInt(10) / 9 * 600;
        int from = random.nextInt(t.places + 1);
        int to = random.nextInt(t.places + 1);
        String on = seed + " " + d + " " + n + " " + p + " " + kind + " " + minute + " " + from + " " + to;
        Oracle.OState s = Oracle.run(t, noDay ? new ArrayList<>() : day, n);
        boolean state = s.done == n;
        boolean who = p >= 0 && p < t.people.size() && minute <= 999;
        boolean ok = state && who && kind < 3 && from < t.places && to < t.places && from != to;
        Oracle.OWay w = ok ? Oracle.best(t, s.owner, p, kind, minute, from, to) : null;
        due.is(on + " way 0", x.way(town, d, n, p, kind, minute, from, to, 0), w == null ? -2 : w.roads.size());
        due.is(on + " way 1", x.way(town, d, n, p, kind, minute, from, to, 1), w == null ? -2 : w.minutes);
        due.is(on + " way 2", x.way(town, d, n, p, kind, minute, from, to, 2), w == null ? -2 : w.pays);
        for (int i = -1; i < 9; i++) {
            boolean one = w != null && i >= 0 && i < w.roads.size();
            due.is(on + " way road", x.way(town, d, n, p, kind, minute, from, to, 10 + i), one ? w.roads.get(i) : -2);
        }
        due.is(on + " cost", x.cost(town, d, n, p, kind, minute, from, to, false), w == null ? Long.MIN_VALUE : w.cost);
        long both = Long.MIN_VALUE;
        if (w != null) {
            int[] then = Oracle.ownersBehind(t, s.owner, p, minute, w);
            both = w.cost + Oracle.best(t, then, p, kind, minute + w.minutes, to, from).cost;
        }
        due.is(on + " there and back", x.cost(town, d, n, p, kind, minute, from, to, true), both);
        lookAtRounds(x, t, s, new int[] {d, n, p, minute, from}, state && who && from < t.places, on);
    }

    private static void lookAtRounds(LastWalker x, Oracle.OTown t, Oracle.OState s, int[] at, boolean ok, String on) {
        int d = at[0];
        int n = at[1];
        int p = at[2];
        int minute = at[3];
        int from = at[4];
        List<Oracle.OWay> rounds = ok ? Oracle.rounds(t, s.owner, p, minute, from) : new ArrayList<>();
        Oracle.OWay best = null;
        for (Oracle.OWay w : rounds) if (w.isBetter(best)) best = w;
        due.is(on + " rounds", x.rounds(town, d, n, p, minute, from), ok ? rounds.size() : -1);
        due.is(on + " gain", x.gain(town, d, n, p, minute, from), best == null ? 0 : best.cost);
        due.is(on + " round", x.round(town, d, n, p, minute, from, 0), best == null ? -1 : best.roads.size());
        due.is(on + " round 1", x.round(town, d, n, p, minute, from, 1), -1);
        for (int i = 0; i < 7; i++) {
            boolean one = best != null && i < best.roads.size();
            due.is(on + " round road", x.round(town, d, n, p, minute, from, 10 + i), one ? best.roads.get(i) : -1);
        }
    }

    private static void lookAtErrands(LastWalker x, Oracle.OTown t, Random random, String seed) {
        int many = t.errands.size();
        int bits = random.nextBoolean() ? (1 << many) - 1 : random.nextInt(1 << many);
        if (random.nextInt(12) == 0) bits = random.nextBoolean() ? 1 << many : -1;
        boolean ok = bits >= 0 && bits < 1 << many;
        String on = seed + " errands " + bits;
        Oracle.OAll a = ok ? Oracle.all(t, bits) : null;
        for (int p = -2; p <= t.people.size(); p++) {
            boolean there = ok && p >= -1 && p < t.people.size();
            for (int w = -1; w <= 5; w++) {
                boolean such = there && w >= 0 && w <= 4;
                due.is(on + " all " + p + " " + w, x.all(town, bits, p, w), such ? a.of(t, p, w) : NO_SUM);
            }
            if (p != -1) lookAtOne(x, t, bits, p, there, on + " one " + p);
        }
        int[] roadsOf = new int[9];
        for (int r = 0; r < 14; r++) {
            boolean there = ok && r < t.roads.size();
            due.is(on + " night", x.night(town, bits, r, 0), there ? a.owner[r] : -2);
            due.is(on + " visits", x.visits(town, bits, r, false), there ? a.visits[r] : -1);
            due.is(on + " earns", x.visits(town, bits, r, true), there ? a.earns[r] : -1);
            if (there) roadsOf[a.owner[r] + 1]++;
        }
        for (int who = -2; who <= 8; who++) {
            boolean such = ok && who >= -1 && who < 8;
            due.is(on + " night of " + who, x.night(town, bits, -1, who), such ? roadsOf[who + 1] : -2);
        }
        lookAtLaws(x, t, bits, ok, on);
        due.is(on + " sooner", x.sooner(town, bits), ok ? Oracle.sooner(t, bits) : -1);
        int[] rests = ok ? Oracle.rests(t, bits) : new int[] {-1, -1};
        due.is(on + " rests", x.rests(town, bits, false), rests[0]);
        due.is(on + " kinds", x.rests(town, bits, true), rests[1]);
        due.is(on + " free", x.free(town, bits), ok ? Oracle.free(t, bits) : -1);
        int idle = 0;
        for (int r = 0; r < t.roads.size(); r++) if (ok && a.visits[r] == 0) idle |= 1 << r;
        due.is(on + " idle", x.whole(town, bits, 0), ok ? idle : -1);
        due.is(on + " late", x.whole(town, bits, 1), ok ? a.late : -1);
        due.is(on + " waits", x.whole(town, bits, 2), ok ? a.waits : -1);
        due.is(on + " whole 4", x.whole(town, bits, 4), -1);
        for (int e = 0; e <= many; e++) {
            int minute = random.nextInt(400) - 10;
            boolean such = ok && e < many && (bits >> e & 1) == 1 && minute >= 0 && minute < 360;
            int net = NO_SUM;
            if (such) {
                Oracle.OTown u = t.copy();
                u.errands.get(e)[2] = minute;
                net = Oracle.net(u, bits, u.errands.get(e)[0]);
            }
            due.is(on + " moved " + e + " " + minute, x.moved(town, bits, e, minute), net);
        }
    }

    private static void lookAtOne(LastWalker x, Oracle.OTown t, int bits, int p, boolean there, String on) {
        for (int k = -1; k <= 3; k++) {
            boolean such = there && k >= 0 && k < 3;
            due.is(on + " turned " + k, x.turned(town, bits, p, k), such ? Oracle.net(Oracle.withKind(t, p, k), bits, p) : NO_SUM);
        }
        due.is(on + " regret", x.regret(town, bits, p), there ? Oracle.regret(t, bits, p) : -1);
        int rest = bits;
        for (int e = 0; e < t.errands.size(); e++) if (t.errands.get(e)[0] == p) rest &= ~(1 << e);
        due.is(on + " still", x.still(town, bits, p), there ? Oracle.net(t, rest, p) : NO_SUM);
        int without = NO_SUM;
        int house = -1;
        int gift = -1;
        if (there) {
            Oracle.OAll a = Oracle.all(t, bits);
            Oracle.OAll b = Oracle.all(t, rest);
            without = 0;
            for (int q = 0; q < t.people.size(); q++) if (q != p) without += b.walked[q] - a.walked[q];
            int least = Integer.MAX_VALUE;
            for (int h = 0; h < t.places; h++) {
                Oracle.OTown u = t.copy();
                u.people.get(p)[0] = h;
                int net = Oracle.net(u, bits, p);
                if (net < least) {
                    least = net;
                    house = h;
                }
            }
            least = Oracle.net(t, bits, p);
            for (int r = 0; r < t.roads.size(); r++) {
                Oracle.OTown u = t.copy();
                u.has[r] = p;
                int net = Oracle.net(u, bits, p);
                if (net < least) {
                    least = net;
                    gift = r;
                }
            }
        }
        due.is(on + " without", x.without(town, bits, p), without);
        due.is(on + " house", x.house(town, bits, p, false), house);
        due.is(on + " gift", x.house(town, bits, p, true), gift);
    }

    private static void lookAtLaws(LastWalker x, Oracle.OTown t, int bits, boolean ok, String on) {
        int which = -1;
        int least = Integer.MAX_VALUE;
        for (int law = -1; law <= 4; law++) {
            boolean such = ok && law >= 0 && law <= 3;
            Oracle.OTown u = t.copy();
            u.law = law;
            Oracle.OAll a = such ? Oracle.all(u, bits) : null;
            for (int w = 0; w <= 5; w++) {
                due.is(on + " other " + law + " " + w, x.other(town, bits, law, w), such && w < 5 ? a.of(u, -1, w) : NO_SUM);
            }
            if (such && a.of(u, -1, 3) < least) {
                least = a.of(u, -1, 3);
                which = law;
            }
        }
        due.is(on + " which", x.whole(town, bits, 3), which);
    }

    private static void lookAtPlaces(LastWalker x, Oracle.OTown t, String on) {
        int bridges = 0;
        for (int r = 0; r <= t.roads.size(); r++) {
            boolean there = r < t.roads.size();
            int needs = there ? Oracle.needs(t, r) : -1;
            due.is(on + " needs " + r, x.needs(town, r), needs);
            if (there && needs != 0) bridges |= 1 << r;
        }
        due.is(on + " bridges", x.needs(town, -1), bridges);
        for (int a = -1; a <= t.places; a++) {
            int left = 0;
            for (int b = -1; b <= t.places; b++) {
                boolean such = a >= 0 && b >= 0 && a < t.places && b < t.places;
                int fewest = such ? Oracle.fewest(t, a, b) : -1;
                due.is(on + " minutes", x.minutes(town, a, b), fewest);
                if (such && fewest < 0) left++;
            }
            due.is(on + " left", x.left(town, a), a >= 0 && a < t.places ? left : -1);
        }
        for (int p = -1; p <= t.people.size(); p++) {
            int live = -1;
            int much = -1;
            for (int h = 0; h < t.places && p >= 0 && p < t.people.size(); h++) {
                int sum = 0;
                boolean can = true;
                for (int[] e : t.errands) {
                    if (e[0] == p) {
                        int fewest = Oracle.fewest(t, h, e[1]);
                        can &= fewest >= 0;
                        sum += fewest;
                    }
                }
                if (can && (live < 0 || sum < much)) {
                    live = h;
                    much = sum;
                }
            }
            due.is(on + " live", x.live(town, p, false), live);
            due.is(on + " live much", x.live(town, p, true), much);
        }
    }

    private static void lookAtDays(LastWalker x, Oracle.OTown t, Random random, String seed) {
        int s = random.nextInt();
        int n = random.nextInt(6) == 0 ? random.nextInt(33) : 1 + random.nextInt(4);
        boolean ok = n >= 1 && n <= 30;
        String on = seed + " days " + s + " " + n;
        Oracle.OAll a = new Oracle.OAll();
        a.owner = t.ownersAtFirst();
        long drawn = s;
        for (int d = 0; d < n && ok; d++) {
            int bits = 0;
            for (int e = 0; e < t.errands.size(); e++) {
                drawn = (drawn * 1103515245L + 12345L) & 0xffffffffL;
                if ((drawn >> 16) % 100 < t.errands.get(e)[3]) bits |= 1 << e;
            }
            Oracle.goDay(t, bits, a);
        }
        for (int w = -1; w < 6; w++) {
            boolean such = ok && (w == 0 || w == 1 || w == 3);
            due.is(on + " " + w, x.days(town, s, n, w), such ? a.of(t, -1, w) : NO_SUM);
        }
        for (int r = 0; r < 14; r++) {
            due.is(on + " road " + r, x.days(town, s, n, 10 + r), ok && r < t.roads.size() ? a.owner[r] : NO_SUM);
        }
        for (int p = 0; p < 8; p++) {
            due.is(on + " one " + p, x.days(town, s, n, 30 + p), ok && p < t.people.size() ? a.got[p] - a.paid[p] : NO_SUM);
        }
    }
}
