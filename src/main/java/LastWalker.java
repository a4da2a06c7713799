import java.util.Arrays;

/**
 * The last who walked it: towns and days told as texts, whose each road is, ways and rounds for
 * people, and all errands of a day.
 *
 * All rows are made once, in the constructors, and used again by every call.
 */
public final class LastWalker {

    public static final int NONE = -1;

    private static final int NO_SUCH = -2;
    private static final int NO_SUM = -100000;
    private static final long NO_COST = -9223372036854775808L;

    private static final int TOWNS = 2;
    private static final int DAYS = 3;
    private static final int IMAGES = 3;
    private static final int TAPE = 600;
    private static final int FED = 20;

    private static final int PLACES = 9;
    private static final int ROADS = 14;
    private static final int PEOPLE = 8;
    private static final int ERRANDS = 12;
    private static final int MOVES = 40;
    private static final int HOURS = 6;
    private static final int LAST_MINUTE = 999;
    private static final int LAST_ERRAND_MINUTE = 359;

    private static final int LAST = 0;
    private static final int FIRST = 1;
    private static final int NOON = 2;
    private static final int NO_LAW = 3;

    private static final int SHORT = 0;
    private static final int OWN = 2;
    private static final int KINDS = 3;

    private static final int WALKED = 0;
    private static final int PAID = 1;
    private static final int GOT = 2;
    private static final int NEEDLESS = 3;
    private static final int NET = 4;

    private static final int ROUND_LEAST = 2;
    private static final int ROUND_MOST = 6;
    private static final int TURNS = 20;
    private static final int DAYS_BY_SEED = 30;

    /** 100 to the 6: after six hours of hundredths worths are still whole numbers. */
    private static final long UNIT = 1000000000000L;
    /** Above every minute and every cost that a way can come to. */
    private static final int ALWAYS = 1000000000;
    private static final long BEYOND = 1000000000000000000L;

    private final Book now;
    private final Book[] images;
    private final Reader reader;
    private final Runner runner;
    private final Hunt hunt;
    private final Outing outing;
    /** A copy of a town that "if it was otherwise" may change. */
    private final Town plan;

    public LastWalker() {
        now = new Book();
        images = new Book[IMAGES];
        for (int i = 0; i < IMAGES; i++) {
            images[i] = new Book();
        }
        reader = new Reader();
        runner = new Runner();
        hunt = new Hunt();
        outing = new Outing(hunt);
        plan = new Town();
    }

    // ------------------------------------------------------------------ texts

    public int feed(int a, int b, int c, int d, int e) {
        if (now.length + FED > TAPE) {
            return NONE;
        }
        now.push(a);
        now.push(b);
        now.push(c);
        now.push(d);
        now.push(e);
        return now.length;
    }

    public int end(int n) {
        if (n < 0 || n > now.length) {
            return NONE;
        }
        now.length = n;
        return n;
    }

    public int text(int sort, int at) {
        int length = now.length;
        now.length = 0;
        now.fault = 0;
        now.faultPlace = NONE;
        if (sort == 0) {
            return takeTown(length, at);
        }
        return sort == 1 ? takeDay(length, at) : NO_SUCH;
    }

    private int takeTown(int length, int at) {
        int place = placeFor(at, now.towns, TOWNS);
        if (place == NONE) {
            return NO_SUCH;
        }
        if (!reader.readTown(now.tape, length)) {
            return keepFault();
        }
        now.town[place].copyFrom(reader.town);
        now.towns = Math.max(now.towns, place + 1);
        return place;
    }

    private int takeDay(int length, int at) {
        int place = placeFor(at, now.days, DAYS);
        if (place == NONE) {
            return NO_SUCH;
        }
        if (!reader.readDay(now.tape, length)) {
            return keepFault();
        }
        now.day[place].copyFrom(reader.day);
        now.days = Math.max(now.days, place + 1);
        return place;
    }

    private static int placeFor(int at, int there, int most) {
        if (at == NONE) {
            return there < most ? there : NONE;
        }
        return at >= 0 && at < there ? at : NONE;
    }

    private int keepFault() {
        now.fault = reader.fault;
        now.faultPlace = reader.faultPlace;
        return NONE;
    }

    public int fault(int what) {
        if (what == 0) {
            return now.fault;
        }
        return what == 1 ? now.faultPlace : NONE;
    }

    // ------------------------------------------------------- what is told

    public int town(int town, int what) {
        Town t = now.townAt(town);
        if (t == null) {
            return NONE;
        }
        switch (what) {
            case 0: return t.places;
            case 1: return t.roads;
            case 2: return t.people;
            case 3: return t.errands;
            case 4: return t.law;
            case 5: return t.noon;
            default: return NONE;
        }
    }

    public int road(int town, int road, int what) {
        Town t = now.townAt(town);
        if (t == null || !t.hasRoad(road)) {
            return NO_SUCH;
        }
        if (what >= 10 && what < 10 + HOURS) {
            return t.chance[road * HOURS + what - 10];
        }
        switch (what) {
            case 0: return t.from[road];
            case 1: return t.to[road];
            case 2: return t.minutes[road];
            case 3: return t.penny[road];
            case 4: return t.has[road];
            default: return NO_SUCH;
        }
    }

    public int person(int town, int person, int what) {
        Town t = now.townAt(town);
        if (t == null || !t.hasPerson(person)) {
            return NONE;
        }
        switch (what) {
            case 0: return t.home[person];
            case 1: return t.care[person];
            case 2: return t.kind[person];
            default: return NONE;
        }
    }

    public int errand(int town, int errand, int what) {
        Town t = now.townAt(town);
        if (t == null || !t.hasErrand(errand)) {
            return NONE;
        }
        switch (what) {
            case 0: return t.who[errand];
            case 1: return t.place[errand];
            case 2: return t.minute[errand];
            case 3: return t.likely[errand];
            default: return NONE;
        }
    }

    public int move(int day, int move, int what) {
        Day d = now.dayAt(day);
        if (d == null) {
            return NO_SUCH;
        }
        if (move == NONE) {
            return what == 0 ? d.moves : NO_SUCH;
        }
        if (move < 0 || move >= d.moves) {
            return NO_SUCH;
        }
        switch (what) {
            case 0: return d.who[move] == NONE ? 1 : 0;
            case 1: return d.who[move];
            case 2: return d.much[move];
            default: return NO_SUCH;
        }
    }

    public int count(int what) {
        if (what == 0) {
            return now.towns;
        }
        return what == 1 ? now.days : NO_SUCH;
    }

    public boolean image(int k) {
        if (k < 0 || k >= IMAGES) {
            return false;
        }
        images[k].copyFrom(now);
        images[k].made = true;
        return true;
    }

    public boolean again(int k) {
        if (k < 0 || k >= IMAGES || !images[k].made) {
            return false;
        }
        now.copyFrom(images[k]);
        return true;
    }

    // ------------------------------------------------------- runs of days

    public int run(int town, int day, int what) {
        Town t = now.townAt(town);
        Day d = now.dayAt(day);
        if (t == null || d == null) {
            return NONE;
        }
        int stop = runner.play(t, d, d.moves);
        if (what == 0) {
            return stop;
        }
        return what == 1 ? runner.met : NONE;
    }

    /** Brings the runner to a state; null if there is none such, else its town. */
    private Town townOfState(int town, int day, int n) {
        Town t = now.townAt(town);
        if (t == null || n < 0) {
            return null;
        }
        if (day == NONE) {
            runner.begin(t);
            return n == 0 ? t : null;
        }
        Day d = now.dayAt(day);
        if (d == null || n > d.moves) {
            return null;
        }
        return runner.play(t, d, n) == n ? t : null;
    }

    public int state(int town, int day, int n, int what) {
        Town t = townOfState(town, day, n);
        if (t == null) {
            return NO_SUCH;
        }
        if (what == 0) {
            return runner.clock;
        }
        if (what == 1) {
            return runner.paidInAll;
        }
        if (what >= 10 && what < 10 + t.roads) {
            return runner.owner[what - 10];
        }
        if (what >= 30 && what < 30 + t.people) {
            return runner.place[what - 30];
        }
        if (what >= 40 && what < 40 + t.people) {
            return runner.came[what - 40];
        }
        return NO_SUCH;
    }

    public int paid(int town, int day, int n, int from, int to) {
        Town t = townOfState(town, day, n);
        if (t == null || !t.hasPerson(from) || !t.hasPerson(to)) {
            return NONE;
        }
        return runner.pays[from * PEOPLE + to];
    }

    public int brings(int town, int day, int n, int road) {
        Town t = townOfState(town, day, n);
        if (t == null || !t.hasRoad(road)) {
            return NONE;
        }
        if (runner.owner[road] == NONE) {
            return NONE;
        }
        Day d = now.dayAt(day);
        return d == null ? 0 : runner.broughtFrom(t, d, n, road);
    }

    public long worth(int town, int road, int h) {
        Town t = now.townAt(town);
        if (t == null || !t.hasRoad(road) || h < 0 || h > HOURS) {
            return NONE;
        }
        return t.worthFrom(road, h);
    }

    // ----------------------------------------------------- ways and rounds

    /** Lets the hunt find the best way from the runner's state; false if there is none. */
    private boolean findWay(Town t, int person, int kind, int minute, int from, int to) {
        if (!t.hasPerson(person) || kind < SHORT || kind > OWN || !isMinute(minute)) {
            return false;
        }
        if (!t.hasPlace(from) || !t.hasPlace(to)) {
            return false;
        }
        hunt.chart.layOut(t);
        hunt.take(t, runner.owner, person, kind);
        return hunt.seekWay(minute, from, to);
    }

    private static boolean isMinute(int minute) {
        return minute >= 0 && minute <= LAST_MINUTE;
    }

    public int way(int town, int day, int n, int person, int kind, int minute, int from, int to,
            int what) {
        Town t = townOfState(town, day, n);
        if (t == null || !findWay(t, person, kind, minute, from, to)) {
            return NO_SUCH;
        }
        if (what == 1) {
            return hunt.bestEnd - minute;
        }
        return what == 2 ? hunt.tollOfBest() : hunt.tellRow(what, NO_SUCH);
    }

    public long cost(int town, int day, int n, int person, int kind, int minute, int from, int to,
            boolean back) {
        Town t = townOfState(town, day, n);
        if (t == null || !findWay(t, person, kind, minute, from, to)) {
            return NO_COST;
        }
        long there = hunt.bestCost;
        if (!back) {
            return there;
        }
        hunt.takeRoadsOfBest(minute);
        return hunt.seekWay(hunt.bestEnd, to, from) ? there + hunt.bestCost : NO_COST;
    }

    /** Lets the hunt look at the rounds from the runner's state; false if nobody could walk them. */
    private boolean findRounds(Town t, int person, int minute, int from, boolean each) {
        if (!t.hasPerson(person) || !isMinute(minute) || !t.hasPlace(from)) {
            return false;
        }
        hunt.chart.layOut(t);
        hunt.take(t, runner.owner, person, OWN);
        hunt.seekRounds(minute, from, each);
        return true;
    }

    public int round(int town, int day, int n, int person, int minute, int from, int what) {
        Town t = townOfState(town, day, n);
        if (t == null || !findRounds(t, person, minute, from, false) || hunt.bestCount == 0) {
            return NONE;
        }
        return hunt.tellRow(what, NONE);
    }

    public long gain(int town, int day, int n, int person, int minute, int from) {
        Town t = townOfState(town, day, n);
        if (t == null || !findRounds(t, person, minute, from, false) || hunt.bestCount == 0) {
            return 0;
        }
        return hunt.bestCost;
    }

    public int rounds(int town, int day, int n, int person, int minute, int from) {
        Town t = townOfState(town, day, n);
        if (t == null || !findRounds(t, person, minute, from, true)) {
            return NONE;
        }
        return hunt.tally;
    }

    // ------------------------------------------------------- all errands

    /** The plan as the town is, laid out for its errands; null if there are none such. */
    private Town planFor(int town, int errands) {
        Town t = now.townAt(town);
        if (t == null || errands < 0 || errands >= 1 << t.errands) {
            return null;
        }
        plan.copyFrom(t);
        hunt.chart.layOut(plan);
        return plan;
    }

    public int all(int town, int errands, int person, int what) {
        Town t = planFor(town, errands);
        if (t == null || !(person == NONE || t.hasPerson(person))) {
            return NO_SUM;
        }
        outing.goAll(t, errands);
        return person == NONE ? outing.sumOf(t, what) : outing.figure(t, person, what);
    }

    public int night(int town, int errands, int road, int who) {
        Town t = planFor(town, errands);
        if (t == null) {
            return NO_SUCH;
        }
        outing.goAll(t, errands);
        if (road == NONE) {
            return who >= NONE && who < PEOPLE ? outing.roadsOf(t, who) : NO_SUCH;
        }
        return t.hasRoad(road) ? outing.owner[road] : NO_SUCH;
    }

    public int other(int town, int errands, int law, int what) {
        Town t = planFor(town, errands);
        if (t == null || law < LAST || law > NO_LAW) {
            return NO_SUM;
        }
        return sumByLaw(t, errands, law, what);
    }

    private int sumByLaw(Town t, int errands, int law, int what) {
        t.law = law;
        hunt.chart.layWorths(t);
        outing.goAll(t, errands);
        return outing.sumOf(t, what);
    }

    public int turned(int town, int errands, int person, int kind) {
        Town t = planFor(town, errands);
        if (t == null || !t.hasPerson(person) || kind < SHORT || kind > OWN) {
            return NO_SUM;
        }
        return netByKind(t, errands, person, kind);
    }

    private int netByKind(Town t, int errands, int person, int kind) {
        int was = t.kind[person];
        t.kind[person] = kind;
        outing.goAll(t, errands);
        t.kind[person] = was;
        return outing.figure(t, person, NET);
    }

    private int netOf(Town t, int errands, int person) {
        outing.goAll(t, errands);
        return outing.figure(t, person, NET);
    }

    public int regret(int town, int errands, int person) {
        Town t = planFor(town, errands);
        if (t == null || !t.hasPerson(person)) {
            return NONE;
        }
        return bestKind(t, errands, person);
    }

    private int bestKind(Town t, int errands, int person) {
        int best = SHORT;
        int least = netByKind(t, errands, person, SHORT);
        for (int kind = SHORT + 1; kind < KINDS; kind++) {
            int net = netByKind(t, errands, person, kind);
            if (net < least) {
                least = net;
                best = kind;
            }
        }
        return best;
    }

    public int sooner(int town, int errands) {
        Town t = planFor(town, errands);
        if (t == null) {
            return NONE;
        }
        int bits = 0;
        for (int person = 0; person < t.people; person++) {
            if (wouldChange(t, errands, person)) {
                bits |= 1 << person;
            }
        }
        return bits;
    }

    private boolean wouldChange(Town t, int errands, int person) {
        // One's kind is asked for his own errands alone.
        if ((errands & t.errandsOf(person)) == 0) {
            return false;
        }
        int net = netByKind(t, errands, person, t.kind[person]);
        for (int kind = SHORT; kind < KINDS; kind++) {
            if (kind != t.kind[person] && netByKind(t, errands, person, kind) < net) {
                return true;
            }
        }
        return false;
    }

    public int rests(int town, int errands, boolean kinds) {
        Town t = planFor(town, errands);
        if (t == null) {
            return NONE;
        }
        for (int turn = 0; turn <= TURNS; turn++) {
            int person = 0;
            while (person < t.people && !wouldChange(t, errands, person)) {
                person++;
            }
            if (person >= t.people) {
                return kinds ? t.kindsByThree() : turn;
            }
            if (turn < TURNS) {
                t.kind[person] = bestKind(t, errands, person);
            }
        }
        return kinds ? t.kindsByThree() : NONE;
    }

    public int free(int town, int errands) {
        Town t = planFor(town, errands);
        if (t == null) {
            return NONE;
        }
        outing.goAll(t, errands);
        int least = outing.sumOf(t, WALKED);
        int best = NONE;
        for (int road = 0; road < t.roads; road++) {
            int walked = walkedIfFree(t, errands, road);
            if (walked < least) {
                least = walked;
                best = road;
            }
        }
        return best;
    }

    /** A road without a penny costs nobody and brings nothing, so it is as if it was nobody's. */
    private int walkedIfFree(Town t, int errands, int road) {
        int was = t.penny[road];
        t.penny[road] = 0;
        hunt.chart.layWorths(t);
        outing.goAll(t, errands);
        t.penny[road] = was;
        return outing.sumOf(t, WALKED);
    }

    public int visits(int town, int errands, int road, boolean paid) {
        Town t = planFor(town, errands);
        if (t == null || !t.hasRoad(road)) {
            return NONE;
        }
        outing.goAll(t, errands);
        return paid ? outing.earns[road] : outing.visited[road];
    }

    public int whole(int town, int errands, int what) {
        Town t = planFor(town, errands);
        if (t == null) {
            return NONE;
        }
        if (what == 3) {
            return bestLaw(t, errands);
        }
        outing.goAll(t, errands);
        switch (what) {
            case 0: return outing.idleRoads(t);
            case 1: return outing.late;
            case 2: return outing.waits;
            default: return NONE;
        }
    }

    private int bestLaw(Town t, int errands) {
        int best = LAST;
        int least = sumByLaw(t, errands, LAST, NEEDLESS);
        for (int law = LAST + 1; law <= NO_LAW; law++) {
            int needless = sumByLaw(t, errands, law, NEEDLESS);
            if (needless < least) {
                least = needless;
                best = law;
            }
        }
        return best;
    }

    public int still(int town, int errands, int person) {
        Town t = planFor(town, errands);
        if (t == null || !t.hasPerson(person)) {
            return NO_SUM;
        }
        return netOf(t, errands & ~t.errandsOf(person), person);
    }

    public int house(int town, int errands, int person, boolean gift) {
        Town t = planFor(town, errands);
        if (t == null || !t.hasPerson(person)) {
            return NONE;
        }
        return gift ? bestGift(t, errands, person) : bestHouse(t, errands, person);
    }

    private int bestHouse(Town t, int errands, int person) {
        int best = NONE;
        int least = 0;
        for (int place = 0; place < t.places; place++) {
            t.home[person] = place;
            int net = netOf(t, errands, person);
            if (best == NONE || net < least) {
                least = net;
                best = place;
            }
        }
        return best;
    }

    private int bestGift(Town t, int errands, int person) {
        int best = NONE;
        int least = netOf(t, errands, person);
        for (int road = 0; road < t.roads; road++) {
            int was = t.has[road];
            t.has[road] = person;
            int net = netOf(t, errands, person);
            t.has[road] = was;
            if (net < least) {
                least = net;
                best = road;
            }
        }
        return best;
    }

    public int moved(int town, int errands, int errand, int minute) {
        Town t = planFor(town, errands);
        if (t == null || !t.hasErrand(errand) || (errands >> errand & 1) == 0) {
            return NO_SUM;
        }
        if (minute < 0 || minute > LAST_ERRAND_MINUTE) {
            return NO_SUM;
        }
        t.minute[errand] = minute;
        return netOf(t, errands, t.who[errand]);
    }

    public int without(int town, int errands, int person) {
        Town t = planFor(town, errands);
        if (t == null || !t.hasPerson(person)) {
            return NO_SUM;
        }
        return walkedByOthers(t, errands & ~t.errandsOf(person), person)
                - walkedByOthers(t, errands, person);
    }

    private int walkedByOthers(Town t, int errands, int person) {
        outing.goAll(t, errands);
        return outing.sumOf(t, WALKED) - outing.figure(t, person, WALKED);
    }

    public int days(int town, int seed, int n, int what) {
        Town t = planFor(town, 0);
        if (t == null || n < 1 || n > DAYS_BY_SEED) {
            return NO_SUM;
        }
        outing.goDays(t, seed, n);
        if (what == WALKED || what == PAID || what == NEEDLESS) {
            return outing.sumOf(t, what);
        }
        if (what >= 10 && what < 10 + t.roads) {
            return outing.owner[what - 10];
        }
        if (what >= 30 && what < 30 + t.people) {
            return outing.figure(t, what - 30, GOT) - outing.figure(t, what - 30, PAID);
        }
        return NO_SUM;
    }

    // ----------------------------------------------------- places and roads

    public int needs(int town, int road) {
        Town t = now.townAt(town);
        if (t == null || !(road == NONE || t.hasRoad(road))) {
            return NONE;
        }
        if (road != NONE) {
            return errandsThatNeed(t, road);
        }
        int bridges = 0;
        for (int r = 0; r < t.roads; r++) {
            if (errandsThatNeed(t, r) != 0) {
                bridges |= 1 << r;
            }
        }
        return bridges;
    }

    private static int errandsThatNeed(Town t, int road) {
        int bits = 0;
        for (int errand = 0; errand < t.errands; errand++) {
            int home = t.home[t.who[errand]];
            int goal = 1 << t.place[errand];
            boolean with = (t.reachedFrom(home, NONE) & goal) != 0;
            if (with && (t.reachedFrom(home, road) & goal) == 0) {
                bits |= 1 << errand;
            }
        }
        return bits;
    }

    public int live(int town, int person, boolean much) {
        Town t = now.townAt(town);
        if (t == null || !t.hasPerson(person)) {
            return NONE;
        }
        hunt.chart.layOut(t);
        int best = NONE;
        int least = NONE;
        for (int place = 0; place < t.places; place++) {
            int sum = minutesToErrands(t, person, place);
            if (sum != NONE && (best == NONE || sum < least)) {
                least = sum;
                best = place;
            }
        }
        return much ? least : best;
    }

    private int minutesToErrands(Town t, int person, int place) {
        int sum = 0;
        for (int errand = 0; errand < t.errands; errand++) {
            if (t.who[errand] == person) {
                int fewest = hunt.chart.fewest[place * PLACES + t.place[errand]];
                if (fewest == NONE) {
                    return NONE;
                }
                sum += fewest;
            }
        }
        return sum;
    }

    public int left(int town, int place) {
        Town t = now.townAt(town);
        if (t == null || !t.hasPlace(place)) {
            return NONE;
        }
        return t.places - Integer.bitCount(t.reachedFrom(place, NONE));
    }

    public int minutes(int town, int from, int to) {
        Town t = now.townAt(town);
        if (t == null || !t.hasPlace(from) || !t.hasPlace(to)) {
            return NONE;
        }
        hunt.chart.layOut(t);
        return hunt.chart.fewest[from * PLACES + to];
    }

    // ------------------------------------------------------------- classes

    /** A town as told: the rows have room for the most that a text may tell. */
    static final class Town {
        int places;
        int roads;
        final int[] from;
        final int[] to;
        final int[] minutes;
        final int[] penny;
        final int[] has;
        final int[] chance;
        int people;
        final int[] home;
        final int[] care;
        final int[] kind;
        int errands;
        final int[] who;
        final int[] place;
        final int[] minute;
        final int[] likely;
        int law;
        int noon;

        Town() {
            from = new int[ROADS];
            to = new int[ROADS];
            minutes = new int[ROADS];
            penny = new int[ROADS];
            has = new int[ROADS];
            chance = new int[ROADS * HOURS];
            home = new int[PEOPLE];
            care = new int[PEOPLE];
            kind = new int[PEOPLE];
            who = new int[ERRANDS];
            place = new int[ERRANDS];
            minute = new int[ERRANDS];
            likely = new int[ERRANDS];
        }

        void clear() {
            places = 4;
            roads = 0;
            people = 0;
            errands = 0;
            law = LAST;
            noon = 0;
            Arrays.fill(has, NONE);
            Arrays.fill(chance, 0);
        }

        void copyFrom(Town t) {
            places = t.places;
            roads = t.roads;
            people = t.people;
            errands = t.errands;
            law = t.law;
            noon = t.noon;
            System.arraycopy(t.from, 0, from, 0, ROADS);
            System.arraycopy(t.to, 0, to, 0, ROADS);
            System.arraycopy(t.minutes, 0, minutes, 0, ROADS);
            System.arraycopy(t.penny, 0, penny, 0, ROADS);
            System.arraycopy(t.has, 0, has, 0, ROADS);
            System.arraycopy(t.chance, 0, chance, 0, ROADS * HOURS);
            System.arraycopy(t.home, 0, home, 0, PEOPLE);
            System.arraycopy(t.care, 0, care, 0, PEOPLE);
            System.arraycopy(t.kind, 0, kind, 0, PEOPLE);
            System.arraycopy(t.who, 0, who, 0, ERRANDS);
            System.arraycopy(t.place, 0, place, 0, ERRANDS);
            System.arraycopy(t.minute, 0, minute, 0, ERRANDS);
            System.arraycopy(t.likely, 0, likely, 0, ERRANDS);
        }

        boolean hasPlace(int p) {
            return p >= 0 && p < places;
        }

        boolean hasRoad(int road) {
            return road >= 0 && road < roads;
        }

        boolean hasPerson(int person) {
            return person >= 0 && person < people;
        }

        boolean hasErrand(int errand) {
            return errand >= 0 && errand < errands;
        }

        /** The other end of a road from one of its ends; NONE from another place. */
        int farEnd(int road, int p) {
            if (from[road] == p) {
                return to[road];
            }
            return to[road] == p ? from[road] : NONE;
        }

        void putFirstOwners(int[] owner) {
            for (int road = 0; road < ROADS; road++) {
                owner[road] = law == NO_LAW ? NONE : has[road];
            }
        }

        /** Whose a road is behind one's walk that begins at this minute. */
        int ownerBehind(int owner, int person, int clock) {
            switch (law) {
                case LAST: return person;
                case FIRST: return owner == NONE ? person : owner;
                case NOON: return clock < noon ? person : owner;
                default: return NONE;
            }
        }

        /** The minute ahead of which one's walk makes a road his that was not. */
        int hisBefore(int owner, int person) {
            if (owner == person || law == NO_LAW || law == FIRST && owner != NONE) {
                return 0;
            }
            return law == NOON ? noon : ALWAYS;
        }

        long worthFrom(int road, int hour) {
            if (law == NO_LAW) {
                return 0;
            }
            long w = UNIT;
            long sum = 0;
            for (int h = hour; h < HOURS; h++) {
                int busy = chance[road * HOURS + h];
                sum += w * busy / 100 * penny[road];
                if (law == LAST || law == NOON && 60 * h < noon) {
                    w = w * (100 - busy) / 100;
                }
            }
            return sum;
        }

        /** The places (bits) to which roads lead from one, it too, without one road or (NONE) all. */
        int reachedFrom(int place, int closed) {
            int bits = 1 << place;
            // Every pass but the last reaches a further place, so as many as there are places do.
            for (int pass = 1; pass < places; pass++) {
                for (int road = 0; road < roads; road++) {
                    int ends = 1 << from[road] | 1 << to[road];
                    if (road != closed && (bits & ends) != 0) {
                        bits |= ends;
                    }
                }
            }
            return bits;
        }

        int errandsOf(int person) {
            int bits = 0;
            for (int errand = 0; errand < errands; errand++) {
                if (who[errand] == person) {
                    bits |= 1 << errand;
                }
            }
            return bits;
        }

        int kindsByThree() {
            int figures = 0;
            for (int person = people - 1; person >= 0; person--) {
                figures = figures * KINDS + kind[person];
            }
            return figures;
        }
    }

    /** The moves of a day: of a wait nobody goes. */
    static final class Day {
        int moves;
        final int[] who;
        final int[] much;

        Day() {
            who = new int[MOVES];
            much = new int[MOVES];
        }

        void add(int one, int roadOrMinutes) {
            if (moves < MOVES) {
                who[moves] = one;
                much[moves] = roadOrMinutes;
                moves++;
            }
        }

        void copyFrom(Day d) {
            moves = d.moves;
            System.arraycopy(d.who, 0, who, 0, MOVES);
            System.arraycopy(d.much, 0, much, 0, MOVES);
        }
    }

    /** All that is told: what an image keeps. */
    static final class Book {
        final byte[] tape;
        int length;
        int fault;
        int faultPlace;
        final Town[] town;
        int towns;
        final Day[] day;
        int days;
        boolean made;

        Book() {
            tape = new byte[TAPE];
            faultPlace = NONE;
            town = new Town[TOWNS];
            for (int i = 0; i < TOWNS; i++) {
                town[i] = new Town();
            }
            day = new Day[DAYS];
            for (int i = 0; i < DAYS; i++) {
                day[i] = new Day();
            }
        }

        void copyFrom(Book b) {
            System.arraycopy(b.tape, 0, tape, 0, TAPE);
            length = b.length;
            fault = b.fault;
            faultPlace = b.faultPlace;
            towns = b.towns;
            for (int i = 0; i < TOWNS; i++) {
                town[i].copyFrom(b.town[i]);
            }
            days = b.days;
            for (int i = 0; i < DAYS; i++) {
                day[i].copyFrom(b.day[i]);
            }
        }

        /** Four bytes come behind the tape, if it has room. */
        void push(int number) {
            for (int shift = 24; shift >= 0 && length < TAPE; shift -= 8) {
                tape[length] = (byte) (number >> shift);
                length++;
            }
        }

        Town townAt(int i) {
            return i >= 0 && i < towns ? town[i] : null;
        }

        Day dayAt(int i) {
            return i >= 0 && i < days ? day[i] : null;
        }
    }

    /** Reads a tape as a town or a day, up to its first fault. */
    static final class Reader {
        private static final int END = 0;
        private static final int WORD = 1;
        private static final int NUMBER = 2;
        private static final int SEMICOLON = 3;
        private static final int NO_TOKEN = 4;

        private static final int PLACES_LINE = 0;
        private static final int ROAD_LINE = 1;
        private static final int SHORT_LINE = 2;
        private static final int CHEAP_LINE = 3;
        private static final int OWN_LINE = 4;
        private static final int ERRAND_LINE = 5;
        private static final int HAS_LINE = 6;
        private static final int BUSY_LINE = 7;
        private static final int LAST_LINE = 8;
        private static final int FIRST_LINE = 9;
        private static final int NOON_LINE = 10;
        private static final int NONE_LINE = 11;
        private static final int GO_LINE = 12;
        private static final int WAIT_LINE = 13;
        private static final int LINES = 14;

        private static final int DIGITS = 3;
        private static final int NUMBERS = 4;
        /** Most of a number that names a person, or a road, that a line ahead told. */
        private static final int TOLD_PERSON = -2;
        private static final int TOLD_ROAD = -3;

        private static final int[] NUMBERS_OF = {1, 4, 2, 2, 2, 4, 2, 3, 0, 0, 1, 0, 2, 1};
        private static final int[] LEAST_OF = {
            2, 0, 0, 0,
            0, 0, 1, 0,
            0, 0, 0, 0,
            0, 0, 0, 0,
            0, 0, 0, 0,
            0, 0, 0, 0,
            0, 0, 0, 0,
            0, 0, 0, 0,
            0, 0, 0, 0,
            0, 0, 0, 0,
            0, 0, 0, 0,
            0, 0, 0, 0,
            0, 0, 0, 0,
            1, 0, 0, 0,
        };
        private static final int[] MOST_OF = {
            9, 0, 0, 0,
            8, 8, 30, 99,
            8, 9, 0, 0,
            8, 9, 0, 0,
            8, 9, 0, 0,
            TOLD_PERSON, 8, 359, 100,
            TOLD_PERSON, TOLD_ROAD, 0, 0,
            TOLD_ROAD, 5, 100, 0,
            0, 0, 0, 0,
            0, 0, 0, 0,
            999, 0, 0, 0,
            0, 0, 0, 0,
            7, 13, 0, 0,
            999, 0, 0, 0,
        };

        final Town town;
        final Day day;
        int fault;
        int faultPlace;
        private byte[] tape;
        private int length;
        private int at;
        private int token;
        private int start;
        private int value;
        private int linePlace;
        private final int[] number;
        private final int[] numberPlace;

        Reader() {
            town = new Town();
            day = new Day();
            tape = new byte[0];
            number = new int[NUMBERS];
            numberPlace = new int[NUMBERS];
        }

        /** Whether the first bytes of a tape are a town, which this.town is then. */
        boolean readTown(byte[] bytes, int n) {
            open(bytes, n);
            town.clear();
            readLines(PLACES_LINE, NONE_LINE);
            if (fault == 0 && !placesFit()) {
                putFault(4, length);
            }
            return fault == 0;
        }

        /** Whether the first bytes of a tape are a day, which this.day is then. */
        boolean readDay(byte[] bytes, int n) {
            open(bytes, n);
            day.moves = 0;
            readLines(GO_LINE, WAIT_LINE);
            return fault == 0;
        }

        private void open(byte[] bytes, int n) {
            tape = bytes;
            length = Math.min(n, bytes.length);
            at = 0;
            fault = 0;
            faultPlace = NONE;
        }

        private void putFault(int sort, int place) {
            fault = sort;
            faultPlace = place;
        }

        private void readLines(int first, int last) {
            // Every line takes a byte at least.
            for (int line = 0; line <= length; line++) {
                next();
                if (token == END) {
                    return;
                }
                int sort = lineOfWord(first, last);
                if (sort == NONE || !readNumbers(sort)) {
                    putFault(1, start);
                    return;
                }
                // Behind a first fault of numbers only faults of form still count.
                if (fault == 0) {
                    checkLine(sort);
                }
                if (fault == 0) {
                    takeLine(sort);
                }
            }
        }

        private int lineOfWord(int first, int last) {
            linePlace = start;
            if (token != WORD) {
                return NONE;
            }
            for (int sort = first; sort <= last && sort < LINES; sort++) {
                if (isWord(wordOf(sort))) {
                    return sort;
                }
            }
            return NONE;
        }

        private static String wordOf(int sort) {
            switch (sort) {
                case PLACES_LINE: return "places";
                case ROAD_LINE: return "road";
                case SHORT_LINE: return "short";
                case CHEAP_LINE: return "cheap";
                case OWN_LINE: return "own";
                case ERRAND_LINE: return "errand";
                case HAS_LINE: return "has";
                case BUSY_LINE: return "busy";
                case LAST_LINE: return "last";
                case FIRST_LINE: return "first";
                case NOON_LINE: return "noon";
                case NONE_LINE: return "none";
                case GO_LINE: return "go";
                default: return "wait";
            }
        }

        private boolean isWord(String word) {
            if (at - start != word.length()) {
                return false;
            }
            for (int i = 0; i < word.length(); i++) {
                if (tape[start + i] != word.charAt(i)) {
                    return false;
                }
            }
            return true;
        }

        /** Whether a line's numbers and its semicolon come; else start is where they don't. */
        private boolean readNumbers(int sort) {
            int many = NUMBERS_OF[sort];
            for (int i = 0; i < many && i < NUMBERS; i++) {
                next();
                if (token != NUMBER) {
                    return false;
                }
                number[i] = value;
                numberPlace[i] = start;
            }
            next();
            return token == SEMICOLON;
        }

        private void next() {
            while (at < length && isBlank(tape[at])) {
                at++;
            }
            start = at;
            if (at >= length) {
                token = END;
            } else if (isLetter(tape[at])) {
                nextWord();
            } else if (isDigit(tape[at])) {
                nextNumber();
            } else if (tape[at] == ';') {
                token = SEMICOLON;
                at++;
            } else {
                token = NO_TOKEN;
            }
        }

        private void nextWord() {
            token = WORD;
            while (at < length && isLetter(tape[at])) {
                at++;
            }
        }

        private void nextNumber() {
            value = 0;
            while (at < length && isDigit(tape[at])) {
                if (at - start < DIGITS) {
                    value = value * 10 + tape[at] - '0';
                }
                at++;
            }
            token = at - start > DIGITS ? NO_TOKEN : NUMBER;
        }

        private static boolean isBlank(int b) {
            return b == 10 || b == 32;
        }

        private static boolean isLetter(int b) {
            return b >= 'a' && b <= 'z';
        }

        private static boolean isDigit(int b) {
            return b >= '0' && b <= '9';
        }

        private void checkLine(int sort) {
            if (isFull(sort)) {
                putFault(3, linePlace);
                return;
            }
            for (int i = 0; i < NUMBERS_OF[sort]; i++) {
                if (!canBe(sort, i)) {
                    putFault(2, numberPlace[i]);
                    return;
                }
            }
        }

        private boolean isFull(int sort) {
            switch (sort) {
                case ROAD_LINE: return town.roads >= ROADS;
                case SHORT_LINE:
                case CHEAP_LINE:
                case OWN_LINE: return town.people >= PEOPLE;
                case ERRAND_LINE: return town.errands >= ERRANDS;
                case GO_LINE:
                case WAIT_LINE: return day.moves >= MOVES;
                default: return false;
            }
        }

        private boolean canBe(int sort, int i) {
            int most = MOST_OF[sort * NUMBERS + i];
            if (most == TOLD_PERSON) {
                most = town.people - 1;
            } else if (most == TOLD_ROAD) {
                most = town.roads - 1;
            }
            if (number[i] < LEAST_OF[sort * NUMBERS + i] || number[i] > most) {
                return false;
            }
            return sort != ROAD_LINE || i != 1 || number[1] != number[0];
        }

        /** Takes a line that was checked. */
        private void takeLine(int sort) {
            switch (sort) {
                case PLACES_LINE: town.places = number[0]; break;
                case ROAD_LINE: addRoad(); break;
                case SHORT_LINE:
                case CHEAP_LINE:
                case OWN_LINE: addPerson(sort - SHORT_LINE); break;
                case ERRAND_LINE: addErrand(); break;
                case HAS_LINE: town.has[number[1]] = number[0]; break;
                case BUSY_LINE: town.chance[number[0] * HOURS + number[1]] = number[2]; break;
                case LAST_LINE: town.law = LAST; break;
                case FIRST_LINE: town.law = FIRST; break;
                case NOON_LINE:
                    town.law = NOON;
                    town.noon = number[0];
                    break;
                case NONE_LINE: town.law = NO_LAW; break;
                case GO_LINE: day.add(number[0], number[1]); break;
                default: day.add(NONE, number[0]); break;
            }
        }

        private void addRoad() {
            int road = town.roads;
            town.from[road] = number[0];
            town.to[road] = number[1];
            town.minutes[road] = number[2];
            town.penny[road] = number[3];
            town.roads++;
        }

        private void addPerson(int kind) {
            int person = town.people;
            town.home[person] = number[0];
            town.care[person] = number[1];
            town.kind[person] = kind;
            town.people++;
        }

        private void addErrand() {
            int errand = town.errands;
            town.who[errand] = number[0];
            town.place[errand] = number[1];
            town.minute[errand] = number[2];
            town.likely[errand] = number[3];
            town.errands++;
        }

        private boolean placesFit() {
            int most = 0;
            for (int road = 0; road < town.roads; road++) {
                most = Math.max(most, Math.max(town.from[road], town.to[road]));
            }
            for (int person = 0; person < town.people; person++) {
                most = Math.max(most, town.home[person]);
            }
            for (int errand = 0; errand < town.errands; errand++) {
                most = Math.max(most, town.place[errand]);
            }
            return most < town.places;
        }
    }

    /** A run of a day, move by move. */
    static final class Runner {
        int clock;
        int paidInAll;
        int met;
        final int[] owner;
        final int[] place;
        final int[] came;
        /** The road that one went along last. */
        final int[] latest;
        final int[] pays;

        Runner() {
            owner = new int[ROADS];
            place = new int[PEOPLE];
            came = new int[PEOPLE];
            latest = new int[PEOPLE];
            pays = new int[PEOPLE * PEOPLE];
        }

        void begin(Town t) {
            clock = 0;
            paidInAll = 0;
            met = 0;
            t.putFirstOwners(owner);
            System.arraycopy(t.home, 0, place, 0, PEOPLE);
            Arrays.fill(came, 0);
            Arrays.fill(latest, NONE);
            Arrays.fill(pays, 0);
        }

        /** Does the first n moves, as far as they can be: how many were done. */
        int play(Town t, Day d, int n) {
            begin(t);
            int most = Math.min(n, d.moves);
            for (int i = 0; i < most; i++) {
                if (!step(t, d, i)) {
                    return i;
                }
            }
            return most;
        }

        private boolean step(Town t, Day d, int i) {
            int one = d.who[i];
            if (one == NONE) {
                clock += d.much[i];
                return true;
            }
            int road = d.much[i];
            if (!t.hasPerson(one) || !t.hasRoad(road)) {
                return false;
            }
            int goal = t.farEnd(road, place[one]);
            if (goal == NONE || clock < came[one]) {
                return false;
            }
            if (isWalkedByAnother(t, road, one)) {
                met++;
            }
            payFor(t, road, one);
            owner[road] = t.ownerBehind(owner[road], one, clock);
            place[one] = goal;
            came[one] = clock + t.minutes[road];
            latest[one] = road;
            return true;
        }

        private boolean isWalkedByAnother(Town t, int road, int one) {
            for (int q = 0; q < t.people; q++) {
                if (q != one && latest[q] == road && came[q] > clock) {
                    return true;
                }
            }
            return false;
        }

        private void payFor(Town t, int road, int one) {
            int whose = owner[road];
            if (whose != NONE && whose != one) {
                pays[one * PEOPLE + whose] += t.penny[road];
                paidInAll += t.penny[road];
            }
        }

        /** From the state behind n moves on: what a road brings whose it is, till another one has it. */
        int broughtFrom(Town t, Day d, int n, int road) {
            int whose = owner[road];
            int sum = 0;
            for (int i = n; i < d.moves && owner[road] == whose; i++) {
                int before = paidInAll;
                if (!step(t, d, i)) {
                    return sum;
                }
                if (d.who[i] != NONE && d.much[i] == road) {
                    sum += paidInAll - before;
                }
            }
            return sum;
        }
    }

    /** What a town's roads are to a hunt: which are at a place, fewest minutes, worths by hours. */
    static final class Chart {
        final int[] degree;
        final int[] roadAt;
        final int[] farAt;
        final int[] fewest;
        final long[] worths;

        Chart() {
            degree = new int[PLACES];
            roadAt = new int[PLACES * ROADS];
            farAt = new int[PLACES * ROADS];
            fewest = new int[PLACES * PLACES];
            worths = new long[ROADS * (HOURS + 1)];
        }

        void layOut(Town t) {
            layRoads(t);
            layMinutes(t);
            layWorths(t);
        }

        /** By numbers at each place, so that a hunt meets the least rows first. */
        private void layRoads(Town t) {
            Arrays.fill(degree, 0);
            for (int road = 0; road < t.roads; road++) {
                join(t.from[road], t.to[road], road);
                join(t.to[road], t.from[road], road);
            }
        }

        private void join(int near, int far, int road) {
            int i = near * ROADS + degree[near];
            roadAt[i] = road;
            farAt[i] = far;
            degree[near]++;
        }

        private void layMinutes(Town t) {
            Arrays.fill(fewest, NONE);
            for (int place = 0; place < t.places; place++) {
                fewest[place * PLACES + place] = 0;
            }
            for (int road = 0; road < t.roads; road++) {
                lower(t.from[road], t.to[road], t.minutes[road]);
                lower(t.to[road], t.from[road], t.minutes[road]);
            }
            for (int over = 0; over < t.places; over++) {
                for (int from = 0; from < t.places; from++) {
                    if (from != over && fewest[from * PLACES + over] != NONE) {
                        lowerAllOver(t, from, over);
                    }
                }
            }
        }

        private void lowerAllOver(Town t, int from, int over) {
            int first = fewest[from * PLACES + over];
            for (int to = 0; to < t.places; to++) {
                int second = fewest[over * PLACES + to];
                if (second != NONE) {
                    lower(from, to, first + second);
                }
            }
        }

        private void lower(int from, int to, int minutes) {
            int i = from * PLACES + to;
            if (fewest[i] == NONE || minutes < fewest[i]) {
                fewest[i] = minutes;
            }
        }

        void layWorths(Town t) {
            for (int road = 0; road < t.roads; road++) {
                for (int h = 0; h <= HOURS; h++) {
                    worths[road * (HOURS + 1) + h] = t.worthFrom(road, h);
                }
            }
        }

        /** The most that a road is worth from any hour on that comes behind this minute's. */
        long mostWorthBehind(int road, int minute) {
            long most = 0;
            for (int h = minute / 60 + 1; h < HOURS; h++) {
                long worth = worths[road * (HOURS + 1) + h];
                if (worth > most) {
                    most = worth;
                }
            }
            return most;
        }
    }

    /** Looks through the ways, or the rounds, of one, the least rows of roads first. */
    static final class Hunt {
        final Chart chart;
        final int[] best;
        int bestCount;
        int bestEnd;
        long bestCost;
        int tally;
        private final int[] row;
        /** What each road costs whoever walks it now, but for its worth. */
        private final long[] prices;
        /** The minute ahead of which walking a road makes it his. */
        private final int[] hisBefore;
        /** By how much walking a road could at most lower a cost, from this hunt's minute on. */
        private final long[] hopes;
        private Town town;
        private int[] owner;
        private int person;
        private int kind;
        private int goal;
        /** Places of a way, or roads of a round, that were walked (bits). */
        private int been;
        /** What a minute costs at least; 0 where worths could outweigh it. */
        private long minuteCost;
        private boolean each;

        Hunt() {
            chart = new Chart();
            best = new int[PLACES];
            row = new int[PLACES];
            prices = new long[ROADS];
            hisBefore = new int[ROADS];
            hopes = new long[ROADS];
            town = new Town();
            owner = new int[ROADS];
        }

        /** For one of a kind, in a town as the chart has it, roads being whose this row says. */
        void take(Town t, int[] whose, int one, int sort) {
            town = t;
            owner = whose;
            person = one;
            kind = sort;
            bestCount = 0;
        }

        int toll(int road) {
            int whose = owner[road];
            return whose == NONE || whose == person ? 0 : town.penny[road];
        }

        /** Weighs every road for a hunt from a minute on: all hopes together. */
        private long weigh(int minute) {
            long sum = 0;
            for (int road = 0; road < town.roads; road++) {
                int minutes = town.minutes[road];
                hopes[road] = 0;
                if (kind == SHORT) {
                    prices[road] = minutes * UNIT;
                } else {
                    prices[road] = (minutes * town.care[person] + toll(road)) * UNIT;
                }
                hisBefore[road] = kind == OWN ? town.hisBefore(owner[road], person) : 0;
                if (minute < hisBefore[road]) {
                    long hope = chart.mostWorthBehind(road, minute) - prices[road];
                    hopes[road] = Math.max(0, hope);
                }
                sum += hopes[road];
            }
            return sum;
        }

        /** Whether there is a way, the best of which stands in best then. */
        boolean seekWay(int minute, int from, int to) {
            bestCount = 0;
            int fewest = chart.fewest[from * PLACES + to];
            if (from == to || fewest == NONE) {
                return false;
            }
            goal = to;
            been = 0;
            bestCost = kind == SHORT ? fewest * UNIT : BEYOND;
            minuteCost = kind == SHORT ? UNIT : kind == OWN ? 0 : town.care[person] * UNIT;
            goOn(this, from, 0, minute, 0, weigh(minute));
            return bestCount > 0;
        }

        private static void goOn(Hunt h, int place, int depth, int minute, long sum, long hope) {
            if (place == h.goal) {
                h.offer(depth, minute, sum);
                return;
            }
            if (depth >= PLACES - 1) {
                return;
            }
            h.been |= 1 << place;
            int first = place * ROADS;
            for (int i = first; i < first + h.chart.degree[place]; i++) {
                int next = h.chart.farAt[i];
                if ((h.been >> next & 1) == 0) {
                    int road = h.chart.roadAt[i];
                    long further = sum + h.costOf(road, minute);
                    long hoped = hope - h.hopes[road];
                    long rest = h.chart.fewest[next * PLACES + h.goal] * h.minuteCost;
                    if (further + rest - hoped <= h.bestCost) {
                        h.row[depth] = road;
                        goOn(h, next, depth + 1, minute + h.town.minutes[road], further, hoped);
                    }
                }
            }
            h.been &= ~(1 << place);
        }

        private long costOf(int road, int minute) {
            if (minute >= hisBefore[road]) {
                return prices[road];
            }
            int hour = minute < 60 * HOURS ? minute / 60 + 1 : HOURS;
            return prices[road] - chart.worths[road * (HOURS + 1) + hour];
        }

        /** Rows come by numbers, so a later one of as many roads and the same cost is none better. */
        private void offer(int depth, int minute, long sum) {
            if (bestCount == 0 || sum < bestCost || sum == bestCost && depth < bestCount) {
                bestCount = depth;
                bestCost = sum;
                bestEnd = minute;
                for (int i = 0; i < depth; i++) {
                    best[i] = row[i];
                }
            }
        }

        /** Finds the best round, or (all) tallies each that costs less than nothing. */
        void seekRounds(int minute, int from, boolean all) {
            bestCount = 0;
            bestCost = -1;
            tally = 0;
            goal = from;
            been = 0;
            each = all;
            goAround(this, from, 0, minute, 0, weigh(minute));
        }

        private static void goAround(Hunt h, int place, int depth, int minute, long sum, long hope) {
            if (place == h.goal && depth >= ROUND_LEAST) {
                h.meetRound(depth, minute, sum);
            }
            if (depth >= ROUND_MOST) {
                return;
            }
            int first = place * ROADS;
            for (int i = first; i < first + h.chart.degree[place]; i++) {
                int road = h.chart.roadAt[i];
                if ((h.been >> road & 1) == 0) {
                    long further = sum + h.costOf(road, minute);
                    long hoped = hope - h.hopes[road];
                    if (further - hoped <= (h.each ? -1 : h.bestCost)) {
                        h.row[depth] = road;
                        h.been |= 1 << road;
                        goAround(h, h.chart.farAt[i], depth + 1, minute + h.town.minutes[road],
                                further, hoped);
                        h.been &= ~(1 << road);
                    }
                }
            }
        }

        private void meetRound(int depth, int minute, long sum) {
            if (sum < 0) {
                tally++;
                offer(depth, minute, sum);
            }
        }

        int tollOfBest() {
            int sum = 0;
            for (int i = 0; i < bestCount; i++) {
                sum += toll(best[i]);
            }
            return sum;
        }

        /** The best row's length (0) or its road i (10 + i). */
        int tellRow(int what, int otherwise) {
            if (what == 0) {
                return bestCount;
            }
            return what >= 10 && what < 10 + bestCount ? best[what - 10] : otherwise;
        }

        /** The roads of the best way become whose they are behind it. */
        void takeRoadsOfBest(int begin) {
            int minute = begin;
            for (int i = 0; i < bestCount; i++) {
                int road = best[i];
                owner[road] = town.ownerBehind(owner[road], person, minute);
                minute += town.minutes[road];
            }
        }
    }

    /** All errands of a day, or of several days. */
    static final class Outing {
        final int[] owner;
        final int[] earns;
        final int[] visited;
        int late;
        int waits;
        private final Hunt hunt;
        private final int[] place;
        private final int[] came;
        private final int[] walked;
        private final int[] paid;
        private final int[] got;
        private final int[] needless;
        private final int[] order;

        Outing(Hunt h) {
            hunt = h;
            owner = new int[ROADS];
            earns = new int[ROADS];
            visited = new int[ROADS];
            place = new int[PEOPLE];
            came = new int[PEOPLE];
            walked = new int[PEOPLE];
            paid = new int[PEOPLE];
            got = new int[PEOPLE];
            needless = new int[PEOPLE];
            order = new int[ERRANDS];
        }

        /** All of these errands, in a town as the hunt's chart has it. */
        void goAll(Town t, int errands) {
            begin(t);
            goDay(t, errands);
        }

        void goDays(Town t, int seed, int n) {
            begin(t);
            int x = seed;
            for (int day = 0; day < n; day++) {
                int errands = 0;
                for (int errand = 0; errand < t.errands; errand++) {
                    x = x * 1103515245 + 12345;
                    if ((x >>> 16) % 100 < t.likely[errand]) {
                        errands |= 1 << errand;
                    }
                }
                goDay(t, errands);
            }
        }

        private void begin(Town t) {
            t.putFirstOwners(owner);
            Arrays.fill(earns, 0);
            Arrays.fill(visited, 0);
            Arrays.fill(walked, 0);
            Arrays.fill(paid, 0);
            Arrays.fill(got, 0);
            Arrays.fill(needless, 0);
            late = 0;
            waits = 0;
        }

        private void goDay(Town t, int errands) {
            System.arraycopy(t.home, 0, place, 0, PEOPLE);
            Arrays.fill(came, 0);
            int many = putInOrder(t, errands);
            for (int i = 0; i < many; i++) {
                int errand = order[i];
                int one = t.who[errand];
                int begun = Math.max(t.minute[errand], came[one]);
                hunt.take(t, owner, one, t.kind[one]);
                if (hunt.seekWay(begun, place[one], t.place[errand])) {
                    walkBest(t, errand, begun);
                }
            }
        }

        private int putInOrder(Town t, int errands) {
            int many = 0;
            for (int errand = 0; errand < t.errands; errand++) {
                if ((errands >> errand & 1) != 0) {
                    int i = many;
                    while (i > 0 && t.minute[order[i - 1]] > t.minute[errand]) {
                        order[i] = order[i - 1];
                        i--;
                    }
                    order[i] = errand;
                    many++;
                }
            }
            return many;
        }

        private void walkBest(Town t, int errand, int begun) {
            int one = t.who[errand];
            int to = t.place[errand];
            int minutes = hunt.bestEnd - begun;
            walked[one] += minutes;
            needless[one] += minutes - hunt.chart.fewest[place[one] * PLACES + to];
            waits += begun - t.minute[errand];
            late = Math.max(late, hunt.bestEnd);
            place[one] = to;
            came[one] = hunt.bestEnd;
            payForWay(one);
            hunt.takeRoadsOfBest(begun);
        }

        /** No road comes twice in a way, so all can be paid for ahead of its changes. */
        private void payForWay(int one) {
            for (int i = 0; i < hunt.bestCount; i++) {
                int road = hunt.best[i];
                int toll = hunt.toll(road);
                visited[road]++;
                earns[road] += toll;
                paid[one] += toll;
                if (owner[road] != NONE) {
                    got[owner[road]] += toll;
                }
            }
        }

        int figure(Town t, int one, int what) {
            switch (what) {
                case WALKED: return walked[one];
                case PAID: return paid[one];
                case GOT: return got[one];
                case NEEDLESS: return needless[one];
                case NET: return walked[one] * t.care[one] + paid[one] - got[one];
                default: return NO_SUM;
            }
        }

        int sumOf(Town t, int what) {
            if (what < WALKED || what > NET) {
                return NO_SUM;
            }
            int sum = 0;
            for (int one = 0; one < t.people; one++) {
                sum += figure(t, one, what);
            }
            return sum;
        }

        int roadsOf(Town t, int who) {
            int many = 0;
            for (int road = 0; road < t.roads; road++) {
                if (owner[road] == who) {
                    many++;
                }
            }
            return many;
        }

        int idleRoads(Town t) {
            int bits = 0;
            for (int road = 0; road < t.roads; road++) {
                if (visited[road] == 0) {
                    bits |= 1 << road;
                }
            }
            return bits;
        }
    }
}
