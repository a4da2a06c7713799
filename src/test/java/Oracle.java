import java.util.ArrayList;
import java.util.Arrays;
import java.util.List;
import java.util.Random;

/**
 * The document's terms once more, told as plainly as can be: every way and every round is listed,
 * then the best is taken. Slow, and made without a look at how the class does it.
 */
final class Oracle {
    static final long UNIT = 1_000_000_000_000L;

    /** A town: road {a, b, minutes, penny}, person {home, care, kind}, errand {one, place, minute, likely}. */
    static final class OTown {
        int places = 4;
        List<int[]> roads = new ArrayList<>();
        List<int[]> people = new ArrayList<>();
        List<int[]> errands = new ArrayList<>();
        int[] has = new int[14];
        int[][] busy = new int[14][6];
        int law = 0;
        int noon = 0;

        OTown() {
            Arrays.fill(has, -1);
        }

        OTown copy() {
            OTown t = new OTown();
            t.places = places;
            for (int[] r : roads) t.roads.add(r.clone());
            for (int[] p : people) t.people.add(p.clone());
            for (int[] e : errands) t.errands.add(e.clone());
            t.has = has.clone();
            for (int r = 0; r < 14; r++) t.busy[r] = busy[r].clone();
            t.law = law;
            t.noon = noon;
            return t;
        }

        int[] ownersAtFirst() {
            int[] o = has.clone();
            if (law == 3) Arrays.fill(o, -1);
            return o;
        }
    }

    /** A run's state. */
    static final class OState {
        int clock = 0;
        int paid = 0;
        int met = 0;
        int done = 0;
        int[] owner;
        int[] place = new int[8];
        int[] came = new int[8];
        int[] on = new int[8];
        int[][] pays = new int[8][8];
        List<int[]> tolls = new ArrayList<>(); // move, road, to, pennies
    }

    static int lawBehind(OTown t, int owner, int one, int minute) {
        if (t.law == 0) return one;
        if (t.law == 1) return owner < 0 ? one : owner;
        if (t.law == 2) return minute < t.noon ? one : owner;
        return -1;
    }

    /** A day's move: {one, road} or {minutes}. */
    static OState run(OTown t, List<int[]> day, int n) {
        OState s = new OState();
        s.owner = t.ownersAtFirst();
        Arrays.fill(s.on, -1);
        for (int p = 0; p < t.people.size(); p++) s.place[p] = t.people.get(p)[0];
        for (int i = 0; i < n && i < day.size(); i++) {
            int[] m = day.get(i);
            if (m.length == 1) {
                s.clock += m[0];
                s.done++;
                continue;
            }
            int p = m[0];
            int r = m[1];
            if (p >= t.people.size() || r >= t.roads.size()) return s;
            int[] road = t.roads.get(r);
            if (s.place[p] != road[0] && s.place[p] != road[1]) return s;
            if (s.came[p] > s.clock) return s;
            boolean meets = false;
            for (int q = 0; q < t.people.size(); q++) {
                meets |= q != p && s.on[q] == r && s.came[q] > s.clock;
            }
            if (meets) s.met++;
            int o = s.owner[r];
            if (o >= 0 && o != p) {
                s.pays[p][o] += road[3];
                s.paid += road[3];
                s.tolls.add(new int[] {i, r, o, road[3]});
            }
            s.owner[r] = lawBehind(t, o, p, s.clock);
            s.place[p] = road[0] + road[1] - s.place[p];
            s.came[p] = s.clock + road[2];
            s.on[p] = r;
            s.done++;
        }
        return s;
    }

    static int brings(OTown t, List<int[]> day, int n, int r) {
        int o = run(t, day, n).owner[r];
        if (o < 0) return -1;
        int stop = run(t, day, day.size()).done;
        int sum = 0;
        for (int k = n + 1; k <= stop; k++) {
            OState s = run(t, day, k);
            for (int[] toll : s.tolls) {
                if (toll[0] == k - 1 && toll[1] == r && toll[2] == o) sum += toll[3];
            }
            if (s.owner[r] != o) break;
        }
        return sum;
    }

    static long worth(OTown t, int r, int h) {
        if (t.law == 3) return 0;
        long w = UNIT;
        long sum = 0;
        for (; h <= 5; h++) {
            long c = t.busy[r][h];
            sum += w * c / 100 * t.roads.get(r)[3];
            boolean sinks = t.law == 0 || t.law == 2 && 60 * h < t.noon;
            if (sinks) w = w * (100 - c) / 100;
        }
        return sum;
    }

    static final class OWay {
        List<Integer> roads = new ArrayList<>();
        long cost;
        int minutes;
        int pays;

        boolean isBetter(OWay o) {
            if (o == null || cost != o.cost) return o == null || cost < o.cost;
            if (roads.size() != o.roads.size()) return roads.size() < o.roads.size();
            for (int i = 0; i < roads.size(); i++) {
                if (!roads.get(i).equals(o.roads.get(i))) return roads.get(i) < o.roads.get(i);
            }
            return false;
        }
    }

    static OWay weigh(OTown t, int[] owner, int one, int kind, int minute, List<Integer> roads) {
        OWay w = new OWay();
        w.roads = new ArrayList<>(roads);
        long worths = 0;
        for (int r : roads) {
            int at = minute + w.minutes;
            int hour = Math.min(5, at / 60);
            if (owner[r] >= 0 && owner[r] != one) w.pays += t.roads.get(r)[3];
            if (owner[r] != one && lawBehind(t, owner[r], one, at) == one) worths += worth(t, r, hour + 1);
            w.minutes += t.roads.get(r)[2];
        }
        int care = t.people.get(one)[1];
        if (kind == 0) w.cost = UNIT * w.minutes;
        if (kind == 1) w.cost = UNIT * (w.minutes * care + w.pays);
        if (kind == 2) w.cost = UNIT * (w.minutes * care + w.pays) - worths;
        return w;
    }

    static void listWays(OTown t, List<Integer> places, List<Integer> roads, int to, List<List<Integer>> into) {
        int here = places.get(places.size() - 1);
        if (here == to) {
            into.add(new ArrayList<>(roads));
            return;
        }
        for (int r = t.roads.size() - 1; r >= 0; r--) {
            int[] road = t.roads.get(r);
            int next = road[0] == here ? road[1] : road[1] == here ? road[0] : -1;
            if (next >= 0 && !places.contains(next)) {
                places.add(next);
                roads.add(r);
                listWays(t, places, roads, to, into);
                places.remove(places.size() - 1);
                roads.remove(roads.size() - 1);
            }
        }
    }

    static List<List<Integer>> ways(OTown t, int from, int to) {
        List<List<Integer>> all = new ArrayList<>();
        if (from != to) listWays(t, new ArrayList<>(List.of(from)), new ArrayList<>(), to, all);
        return all;
    }

    static OWay best(OTown t, int[] owner, int one, int kind, int minute, int from, int to) {
        OWay best = null;
        for (List<Integer> roads : ways(t, from, to)) {
            OWay w = weigh(t, owner, one, kind, minute, roads);
            if (w.isBetter(best)) best = w;
        }
        return best;
    }

    static int[] ownersBehind(OTown t, int[] owner, int one, int minute, OWay w) {
        int[] o = owner.clone();
        int at = minute;
        for (int r : w.roads) {
            o[r] = lawBehind(t, o[r], one, at);
            at += t.roads.get(r)[2];
        }
        return o;
    }

    static void listRounds(OTown t, int here, List<Integer> roads, int from, List<List<Integer>> into) {
        if (here == from && roads.size() >= 2) into.add(new ArrayList<>(roads));
        if (roads.size() == 6) return;
        for (int r = t.roads.size() - 1; r >= 0; r--) {
            int[] road = t.roads.get(r);
            int next = road[0] == here ? road[1] : road[1] == here ? road[0] : -1;
            if (next >= 0 && !roads.contains(r)) {
                roads.add(r);
                listRounds(t, next, roads, from, into);
                roads.remove(roads.size() - 1);
            }
        }
    }

    static List<OWay> rounds(OTown t, int[] owner, int one, int minute, int from) {
        List<List<Integer>> all = new ArrayList<>();
        listRounds(t, from, new ArrayList<>(), from, all);
        List<OWay> good = new ArrayList<>();
        for (List<Integer> roads : all) {
            OWay w = weigh(t, owner, one, 2, minute, roads);
            if (w.cost < 0) good.add(w);
        }
        return good;
    }

    static int fewest(OTown t, int from, int to) {
        if (from == to) return 0;
        int least = -1;
        for (List<Integer> roads : ways(t, from, to)) {
            int m = 0;
            for (int r : roads) m += t.roads.get(r)[2];
            if (least < 0 || m < least) least = m;
        }
        return least;
    }

    /** All errands: what they sum up to. */
    static final class OAll {
        int[] walked = new int[8];
        int[] paid = new int[8];
        int[] got = new int[8];
        int[] needless = new int[8];
        int[] visits = new int[14];
        int[] earns = new int[14];
        int[] owner;
        int late;
        int waits;

        int of(OTown t, int p, int what) {
            if (p < 0) {
                int sum = 0;
                for (int q = 0; q < t.people.size(); q++) sum += of(t, q, what);
                return sum;
            }
            switch (what) {
                case 0: return walked[p];
                case 1: return paid[p];
                case 2: return got[p];
                case 3: return needless[p];
                default: return walked[p] * t.people.get(p)[1] + paid[p] - got[p];
            }
        }
    }

    static OAll all(OTown t, int bits) {
        OAll a = new OAll();
        a.owner = t.ownersAtFirst();
        goDay(t, bits, a);
        return a;
    }

    static void goDay(OTown t, int bits, OAll a) {
        int[] place = new int[8];
        int[] came = new int[8];
        for (int p = 0; p < t.people.size(); p++) place[p] = t.people.get(p)[0];
        for (int minute = 0; minute < 360; minute++) {
            for (int e = 0; e < t.errands.size(); e++) {
                int[] er = t.errands.get(e);
                if ((bits >> e & 1) == 0 || er[2] != minute) continue;
                int p = er[0];
                int begun = Math.max(minute, came[p]);
                OWay w = best(t, a.owner, p, t.people.get(p)[2], begun, place[p], er[1]);
                if (w == null) continue;
                a.walked[p] += w.minutes;
                a.paid[p] += w.pays;
                a.needless[p] += w.minutes - fewest(t, place[p], er[1]);
                for (int r : w.roads) {
                    a.visits[r]++;
                    int o = a.owner[r];
                    if (o >= 0 && o != p) {
                        a.got[o] += t.roads.get(r)[3];
                        a.earns[r] += t.roads.get(r)[3];
                    }
                }
                a.owner = ownersBehind(t, a.owner, p, begun, w);
                a.waits += begun - minute;
                came[p] = begun + w.minutes;
                a.late = Math.max(a.late, came[p]);
                place[p] = er[1];
            }
        }
    }

    static OTown withKind(OTown t, int p, int kind) {
        OTown u = t.copy();
        u.people.get(p)[2] = kind;
        return u;
    }

    static int net(OTown t, int bits, int p) {
        return all(t, bits).of(t, p, 4);
    }

    static int regret(OTown t, int bits, int p) {
        int best = 0;
        for (int k = 1; k < 3; k++) {
            if (net(withKind(t, p, k), bits, p) < net(withKind(t, p, best), bits, p)) best = k;
        }
        return best;
    }

    static int sooner(OTown t, int bits) {
        int who = 0;
        for (int p = 0; p < t.people.size(); p++) {
            for (int k = 0; k < 3; k++) {
                if (net(withKind(t, p, k), bits, p) < net(t, bits, p)) who |= 1 << p;
            }
        }
        return who;
    }

    /** {turns or -1, kinds by three}. */
    static int[] rests(OTown town, int bits) {
        OTown t = town.copy();
        int turns = 0;
        int who = sooner(t, bits);
        while (who != 0 && turns < 20) {
            int p = Integer.numberOfTrailingZeros(who);
            t.people.get(p)[2] = regret(t, bits, p);
            turns++;
            who = sooner(t, bits);
        }
        int figures = 0;
        int value = 1;
        for (int[] p : t.people) {
            figures += p[2] * value;
            value *= 3;
        }
        return new int[] {who == 0 ? turns : -1, figures};
    }

    static int free(OTown town, int bits) {
        int least = all(town, bits).of(town, -1, 0);
        int best = -1;
        for (int r = 0; r < town.roads.size(); r++) {
            OTown t = town.copy();
            t.roads.get(r)[3] = 0;
            t.has[r] = -1;
            int w = all(t, bits).of(t, -1, 0);
            if (w < least) {
                least = w;
                best = r;
            }
        }
        return best;
    }

    static int needs(OTown t, int r) {
        int bits = 0;
        for (int e = 0; e < t.errands.size(); e++) {
            int home = t.people.get(t.errands.get(e)[0])[0];
            boolean any = false;
            boolean without = false;
            for (List<Integer> w : ways(t, home, t.errands.get(e)[1])) {
                any = true;
                without |= !w.contains(r);
            }
            if (any && !without) bits |= 1 << e;
        }
        return bits;
    }

    // -------------------------------------------------------------- chance

    static OTown randomTown(Random random) {
        OTown t = new OTown();
        t.places = 2 + random.nextInt(6);
        int roads = random.nextInt(10);
        int people = random.nextInt(5);
        int errands = people == 0 ? 0 : random.nextInt(8);
        boolean near = random.nextBoolean();
        for (int r = 0; r < roads; r++) {
            int a = random.nextInt(t.places);
            int b = (a + 1 + random.nextInt(t.places - 1)) % t.places;
            t.roads.add(new int[] {a, b, 1 + random.nextInt(near ? 4 : 30), random.nextInt(near ? 8 : 100)});
        }
        for (int p = 0; p < people; p++) {
            t.people.add(new int[] {random.nextInt(t.places), random.nextInt(random.nextBoolean() ? 3 : 10), random.nextInt(3)});
        }
        for (int e = 0; e < errands; e++) {
            t.errands.add(new int[] {random.nextInt(people), random.nextInt(t.places),
                random.nextInt(near ? 40 : 360), random.nextInt(101)});
        }
        for (int r = 0; r < roads; r++) {
            if (people > 0 && random.nextInt(2) == 0) t.has[r] = random.nextInt(people);
            for (int h = 0; h < 6; h++) {
                if (random.nextInt(2) == 0) t.busy[r][h] = random.nextInt(101);
            }
        }
        t.law = random.nextInt(4);
        t.noon = random.nextInt(2) == 0 ? 0 : random.nextInt(random.nextBoolean() ? 60 : 1000);
        if (t.law == 2 && random.nextBoolean()) t.noon = 100 + random.nextInt(100);
        return t;
    }

    /** As much of all as a town may have, as far as the text has room. */
    static OTown fullTown(Random random) {
        OTown t = new OTown();
        t.places = 9;
        for (int r = 0; r < 14; r++) {
            int a = r < 8 ? r : random.nextInt(9);
            int b = r < 8 ? r + 1 : (a + 1 + random.nextInt(8)) % 9;
            t.roads.add(new int[] {a, b, 1 + random.nextInt(9), random.nextInt(10)});
        }
        for (int p = 0; p < 8; p++) t.people.add(new int[] {random.nextInt(9), random.nextInt(3), random.nextInt(3)});
        for (int e = 0; e < 12; e++) {
            t.errands.add(new int[] {random.nextInt(8), random.nextInt(9), random.nextInt(100), 50 + random.nextInt(50)});
        }
        for (int r = 0; r < 14; r += 3) t.has[13 - r] = random.nextInt(8);
        for (int k = 0; k < 8; k++) t.busy[13 - random.nextInt(14)][random.nextInt(6)] = 1 + random.nextInt(99);
        t.law = random.nextInt(4);
        t.noon = t.law == 2 ? random.nextInt(100) : 0;
        return t;
    }

    static List<int[]> randomDay(Random random, OTown t) {
        List<int[]> day = new ArrayList<>();
        int n = random.nextInt(20);
        OState s = run(t, day, 0);
        for (int i = 0; i < n; i++) {
            s = run(t, day, day.size());
            if (random.nextInt(3) == 0 || t.people.isEmpty() || t.roads.isEmpty()) {
                day.add(new int[] {1 + random.nextInt(random.nextInt(4) == 0 ? 999 : 10)});
                continue;
            }
            int[] m = {random.nextInt(t.people.size()), random.nextInt(t.roads.size())};
            // Mostly moves that can be.
            for (int k = 0; k < 40; k++) {
                int[] road = t.roads.get(m[1]);
                boolean can = s.came[m[0]] <= s.clock && (s.place[m[0]] == road[0] || s.place[m[0]] == road[1]);
                if (can) break;
                m = new int[] {random.nextInt(t.people.size()), random.nextInt(t.roads.size())};
            }
            day.add(m);
        }
        return day;
    }

    static String tell(OTown t, Random random) {
        StringBuilder s = new StringBuilder();
        if (t.places != 4 || random.nextBoolean()) s.append("places ").append(t.places).append(";");
        for (int[] r : t.roads) {
            s.append("road ").append(r[0]).append(' ').append(r[1]).append(' ').append(r[2]).append(' ').append(r[3]).append(';');
        }
        String[] kinds = {"short", "cheap", "own"};
        for (int[] p : t.people) s.append(kinds[p[2]]).append(p[0]).append(' ').append(p[1]).append(";");
        for (int[] e : t.errands) {
            s.append("errand ").append(e[0]).append(' ').append(e[1]).append(' ').append(e[2]).append(' ').append(e[3]).append(';');
        }
        for (int r = 0; r < 14; r++) {
            if (t.has[r] >= 0) s.append("has ").append(t.has[r]).append(' ').append(r).append(";");
        }
        if (t.noon != 0) s.append("noon ").append(t.noon).append(";");
        String[] laws = {"last", "first", "noon " + t.noon, "none"};
        s.append(laws[t.law]).append(";");
        // A text has 600 bytes at most: what does not fit is not busy.
        for (int r = 0; r < 14; r++) {
            for (int h = 0; h < 6; h++) {
                String line = "busy " + r + " " + h + " " + t.busy[r][h] + ";";
                if (t.busy[r][h] != 0 && s.length() + line.length() <= 600) s.append(line);
                else t.busy[r][h] = 0;
            }
        }
        return s.toString();
    }

    static String tell(List<int[]> day) {
        StringBuilder s = new StringBuilder();
        for (int[] m : day) {
            if (m.length == 1) s.append("wait ").append(m[0]).append(";\n");
            else s.append("go ").append(m[0]).append(' ').append(m[1]).append(" ; ");
        }
        return s.toString();
    }
}
