/** Promises 16 to 19 and 39 and term 3, sentence by sentence. */
final class WayBounds {
    private static final int NONE = LastWalker.NONE;
    private static final long UNIT = 1_000_000_000_000L;
    private static final long NO_COST = Long.MIN_VALUE;
    private static final int[] FAR = {Integer.MIN_VALUE, Integer.MAX_VALUE};
    private static final int SHORT = 0;
    private static final int CHEAP = 1;
    private static final int OWN = 2;
    /** From 0 to 2 over 1, or by road 2; 0 has none, 1 has road 1. */
    private static final String TOWN = "places 4;road 0 1 10 4;road 1 2 5 3;road 0 2 20 2;own 0 1;own 0 2;has 1 1;busy 0 1 50;";
    /** Two roads between two places; the first is worth 10 from hour 1 on, the second 9. */
    private static final String RING = "places 2;road 0 1 1 10;road 0 1 1 9;own 0 1;own 0 9;busy 0 1 100;busy 1 1 100;";

    static void test(Sentences s) {
        wayIs(s);
        walkedAt(s);
        costs(s);
        comesToBeHis(s);
        best(s);
        thereAndBack(s);
        roundIs(s);
        bestRound(s);
        manyRounds(s);
        way(s);
        cost(s);
        round(s);
        gain(s);
        rounds(s);
    }

    private static long cost(LastWalker x, int person, int kind, int minute, int from, int to) {
        return x.cost(0, NONE, 0, person, kind, minute, from, to, false);
    }

    private static int way(LastWalker x, int kind, int from, int to, int what) {
        return x.way(0, NONE, 0, 0, kind, 0, from, to, what);
    }

    // ---------------------------------------------------------------- term 3

    private static void wayIs(Sentences s) {
        s.term(3, "A WAY from one PLACE to another one: ROADS one behind the other, no PLACE twice.");
        // To 2 and back over roads 1 and 2 would bring 20, but passes a place twice.
        LastWalker x = s.told("places 3;road 0 1 1 0;road 1 2 1 10;road 1 2 1 10;own 0 0;busy 1 1 100;busy 2 1 100;");
        s.is("not the goal twice", cost(x, 0, OWN, 0, 0, 1), 0);
        s.is("one road", way(x, OWN, 0, 1, 0), 1);
        s.is("not the beginning twice", cost(x, 0, OWN, 0, 1, 0), 0);
        s.is("nor one between", s.told("places 4;road 0 1 1 0;road 1 2 1 10;road 1 2 1 10;road 1 3 1 0;own 0 0;busy 1 1 100;busy 2 1 100;")
                .way(0, NONE, 0, 0, OWN, 0, 0, 3, 0), 2);
        StringBuilder line = new StringBuilder("places 9;short 0 0;");
        for (int p = 0; p < 8; p++) line.append("road ").append(p).append(' ').append(p + 1).append(" 30 1;");
        LastWalker y = s.told(line.toString());
        for (int kind = SHORT; kind <= OWN; kind++) {
            s.is("over all places", way(y, kind, 0, 8, 0), 8);
            s.is("the last road", way(y, kind, 0, 8, 17), 7);
            s.is("no ninth", way(y, kind, 0, 8, 18), -2);
            s.is("back", way(y, kind, 8, 0, 10), 7);
        }
        s.is("minutes", way(y, SHORT, 0, 8, 1), 240);
    }

    private static void walkedAt(Sentences s) {
        s.term(3, "each ROAD is walked at the MINUTE when he is there (HOUR: that by 60, cut, 5 at most)");
        // Road 1 is worth 10 from hour 1 on, 4 from 2 on; it is walked 30 minutes behind the beginning.
        LastWalker x = s.told("places 3;road 0 1 30 0;road 1 2 1 10;own 0 0;busy 1 1 100;busy 1 2 40;");
        s.is("at 59", cost(x, 0, OWN, 29, 0, 2), -10 * UNIT);
        s.is("at 60", cost(x, 0, OWN, 30, 0, 2), -4 * UNIT);
        s.is("at 119", cost(x, 0, OWN, 89, 0, 2), -4 * UNIT);
        s.is("at 120", cost(x, 0, OWN, 90, 0, 2), 0);
        LastWalker y = s.told("places 2;road 0 1 1 10;own 0 0;busy 0 0 100;busy 0 5 100;");
        s.is("hour 0, from 1 on", cost(y, 0, OWN, 0, 0, 1), -10 * UNIT);
        s.is("hour 4, from 5 on", cost(y, 0, OWN, 299, 0, 1), -10 * UNIT);
        for (int minute : new int[] {300, 359, 360, 419, 420, 999}) s.is("hour 5 at " + minute, cost(y, 0, OWN, minute, 0, 1), 0);
        LastWalker z = s.told("places 2;road 0 1 1 10;road 0 1 2 10;own 0 1;busy 0 0 100;busy 1 0 100;busy 1 5 100;");
        for (int minute : new int[] {300, 359, 360, 365, 419, 420, 999}) s.is("of two roads at " + minute, cost(z, 0, OWN, minute, 0, 1), UNIT);
        // A way that begins at 999 goes on behind it.
        s.is("at 1029", x.way(0, NONE, 0, 0, SHORT, 999, 0, 2, 1), 31);
    }

    private static void costs(Sentences s) {
        LastWalker x = s.told(TOWN);
        s.term(3, "short: MINUTES");
        s.is("15", cost(x, 0, SHORT, 0, 0, 2), 15 * UNIT);
        s.is("whoever it is", cost(x, 1, SHORT, 0, 0, 2), 15 * UNIT);
        s.is("a road of 30", s.told("road 0 1 30 99;own 0 0;").cost(0, NONE, 0, 0, SHORT, 0, 0, 1, false), 30 * UNIT);
        s.term(3, "cheap: MINUTES * CARE and what he PAYS");
        s.is("15 and 3", cost(x, 0, CHEAP, 0, 0, 2), 18 * UNIT);
        s.is("30, his own", cost(x, 1, CHEAP, 0, 0, 2), 30 * UNIT);
        s.is("care 0", s.told("road 0 1 30 99;own 0 0;own 0 0;has 1 0;").cost(0, NONE, 0, 0, CHEAP, 0, 0, 1, false), 99 * UNIT);
        s.is("care 9", s.told("road 0 1 30 99;own 0 9;own 0 0;has 1 0;").cost(0, NONE, 0, 0, CHEAP, 0, 0, 1, false), 369 * UNIT);
        s.is("nobody's", s.told("road 0 1 30 99;own 0 9;").cost(0, NONE, 0, 0, CHEAP, 0, 0, 1, false), 270 * UNIT);
        s.term(3, "COST, times 100 to the 6");
        s.is("1 minute", s.told("road 0 1 1 0;own 0 0;").cost(0, NONE, 0, 0, SHORT, 0, 0, 1, false), 1000000000000L);
    }

    private static void comesToBeHis(Sentences s) {
        s.term(3, "own: that less WORTH of each ROAD that comes to be his by it, and was not, from the next HOUR on (6: 0)");
        LastWalker x = s.told(TOWN, "go 0 0;wait 10;go 0 1;");
        s.is("15 and 3 less 2", cost(x, 0, OWN, 0, 0, 2), 16 * UNIT);
        s.is("the next hour is 2", cost(x, 0, OWN, 60, 0, 2), 18 * UNIT);
        s.is("it was his", x.cost(0, 0, 1, 0, OWN, 0, 0, 2, false), 18 * UNIT);
        s.is("both were his", x.cost(0, 0, 3, 0, OWN, 0, 0, 2, false), 15 * UNIT);
        s.is("it was another one's", x.cost(0, 0, 1, 1, OWN, 0, 0, 1, false), 22 * UNIT);
        String town = "places 2;road 0 1 1 10;own 0 0;own 0 0;busy 0 1 50;busy 0 2 50;";
        s.is("last", s.told(town + "has 1 0;").cost(0, NONE, 0, 0, OWN, 0, 0, 1, false), 25 * UNIT / 10);
        s.is("first, nobody's", s.told(town + "first;").cost(0, NONE, 0, 0, OWN, 0, 0, 1, false), -10 * UNIT);
        s.is("first, another one's", s.told(town + "has 1 0;first;").cost(0, NONE, 0, 0, OWN, 0, 0, 1, false), 10 * UNIT);
        s.is("none", s.told(town + "has 1 0;none;").cost(0, NONE, 0, 0, OWN, 0, 0, 1, false), 0);
        s.is("ahead of noon", s.told(town + "noon 8;").cost(0, NONE, 0, 0, OWN, 7, 0, 1, false), -10 * UNIT);
        s.is("at noon", s.told(town + "noon 7;").cost(0, NONE, 0, 0, OWN, 7, 0, 1, false), 0);
        s.is("noon behind hour 1", s.told(town + "noon 61;").cost(0, NONE, 0, 0, OWN, 7, 0, 1, false), -75 * UNIT / 10);
        // By noon the minute of the road tells, not that of the beginning.
        String two = "places 3;road 0 1 5 0;road 1 2 1 10;own 0 0;busy 1 1 50;";
        s.is("noon 6", s.told(two + "noon 6;").cost(0, NONE, 0, 0, OWN, 0, 0, 2, false), -5 * UNIT);
        s.is("noon 5", s.told(two + "noon 5;").cost(0, NONE, 0, 0, OWN, 0, 0, 2, false), 0);
        s.is("6: 0", s.told("road 0 1 1 9;own 0 0;busy 0 5 100;").cost(0, NONE, 0, 0, OWN, 300, 0, 1, false), 0);
    }

    private static void best(Sentences s) {
        s.term(3, "The BEST of a KIND: the least COST; of several the fewest ROADS, then the least row of ROADS by numbers.");
        LastWalker x = s.told("places 3;road 0 1 1 0;road 1 2 1 0;road 0 2 2 0;road 2 0 2 0;road 0 2 3 0;own 0 1;");
        for (int kind = SHORT; kind <= OWN; kind++) {
            s.is("the fewest roads", way(x, kind, 0, 2, 0), 1);
            s.is("the least row", way(x, kind, 0, 2, 10), 2);
            s.is("back", way(x, kind, 2, 0, 10), 2);
        }
        LastWalker y = s.told("places 3;road 0 1 1 0;road 1 2 1 0;road 0 2 3 0;own 0 1;");
        for (int kind = SHORT; kind <= OWN; kind++) s.is("the least cost", way(y, kind, 0, 2, 0), 2);
        // Rows 1 3, 1 4, 2 0: the first road tells, then the second.
        LastWalker z = s.told("places 4;road 2 3 1 0;road 0 1 1 0;road 0 2 1 0;road 1 3 1 0;road 3 1 1 0;own 0 1;");
        for (int kind = SHORT; kind <= OWN; kind++) {
            s.is("the least first road", way(z, kind, 0, 3, 10), 1);
            s.is("the least second road", way(z, kind, 0, 3, 11), 3);
        }
        // Worths differ by the last figure alone: 0.99 to the 6 of a penny.
        LastWalker w = s.told("places 2;road 0 1 1 1;road 0 1 1 1;own 0 0;first;busy 0 5 1;busy 1 5 2;");
        s.is("own takes the worthier", way(w, OWN, 0, 1, 10), 1);
        s.is("cheap the least", way(w, CHEAP, 0, 1, 10), 0);
        // A longer row can cost less for what it brings.
        LastWalker v = s.told("places 3;road 0 2 1 0;road 0 1 1 9;road 1 2 1 9;own 0 1;busy 1 1 100;busy 2 1 100;");
        s.is("own goes far", way(v, OWN, 0, 2, 0), 2);
        s.is("for 2 less 18", cost(v, 0, OWN, 0, 0, 2), -16 * UNIT);
        s.is("short does not", way(v, SHORT, 0, 2, 0), 1);
        // What a way brings at its end counts, whatever it costs until there: 10 and 40 less 99 against 5.
        String end = "places 3;road 0 2 1 0;road 0 1 1 40;road 1 2 1 99;own 0 5;own 0 5;has 1 1;busy 2 ";
        for (int hour = 1; hour <= 5; hour++) {
            LastWalker q = s.told(end + hour + " 100;");
            s.is("the last road brings 99 in hour " + hour, q.way(0, NONE, 0, 0, OWN, 60 * hour - 2, 0, 2, 0), 2);
            s.is("its cost", cost(q, 0, OWN, 60 * hour - 2, 0, 2), (50 - 99) * UNIT);
            s.is("too late", q.way(0, NONE, 0, 0, OWN, 60 * hour - 1, 0, 2, 0), 1);
        }
        // The first row leads over 1 and 3; what is better goes over 3 as well.
        LastWalker p = s.told("places 5;road 0 1 1 0;road 1 3 9 0;road 3 2 1 0;road 0 3 2 0;road 3 4 1 0;road 4 2 1 0;own 0 1;");
        for (int kind = SHORT; kind <= OWN; kind++) {
            s.is("over 3", way(p, kind, 0, 2, 1), 3);
            s.is("by road 3", way(p, kind, 0, 2, 10), 3);
            s.is("and road 2", way(p, kind, 0, 2, 11), 2);
            s.is("to 4", way(p, kind, 0, 4, 1), 3);
        }
        LastWalker o = s.told("places 9;" + "road 7 8 2 1;".repeat(13) + "road 8 7 1 1;own 0 1;");
        for (int kind = SHORT; kind <= OWN; kind++) s.is("the last of 14", way(o, kind, 7, 8, 10), 13);
        // Of equal cost the fewest roads, worths counted: 1 against 2 less 1.
        LastWalker u = s.told("places 3;road 0 1 1 1;road 1 2 1 0;road 0 2 1 0;own 0 1;busy 0 1 100;");
        s.is("of equal cost", way(u, OWN, 0, 2, 0), 1);
    }

    private static void thereAndBack(Sentences s) {
        s.term(3, "THERE AND BACK: COST of the BEST, and of the BEST back behind it, at the MINUTE when he is there, ROADS being whose they are then.");
        LastWalker x = s.told(TOWN);
        s.is("short", x.cost(0, NONE, 0, 0, SHORT, 0, 0, 2, true), 30 * UNIT);
        // There 15 and 3, back 15: roads 0 and 1 are his by then.
        s.is("cheap", x.cost(0, NONE, 0, 0, CHEAP, 0, 0, 2, true), 33 * UNIT);
        s.is("by first he pays twice", s.told(TOWN + "first;").cost(0, NONE, 0, 0, CHEAP, 0, 0, 2, true), 36 * UNIT);
        s.is("by none never", s.told(TOWN + "none;").cost(0, NONE, 0, 0, CHEAP, 0, 0, 2, true), 30 * UNIT);
        // By noon 11 road 1, walked at 10, is his; by noon 10 it is not.
        s.is("noon 11", s.told(TOWN + "noon 11;").cost(0, NONE, 0, 0, CHEAP, 0, 0, 2, true), 33 * UNIT);
        s.is("noon 10", s.told(TOWN + "noon 10;").cost(0, NONE, 0, 0, CHEAP, 0, 0, 2, true), 36 * UNIT);
        // The third road is walked at 7, as is the fourth at 12.
        String four = "places 5;road 0 1 3 0;road 1 2 4 0;road 2 3 5 7;road 3 4 6 8;cheap 0 0;own 0 0;has 1 2;has 1 3;noon ";
        int[] noons = {7, 8, 12, 13};
        int[] paid = {30, 23, 23, 15};
        for (int i = 0; i < 4; i++) {
            s.is("noon " + noons[i], s.told(four + noons[i] + ";").cost(0, NONE, 0, 0, CHEAP, 0, 0, 4, true), paid[i] * UNIT);
        }
        // There at 30 the way back is walked in hour 1: road 1 is worth 4 then, and it was 10.
        LastWalker y = s.told("places 2;road 0 1 30 20;road 0 1 30 10;own 0 0;busy 0 1 100;busy 1 1 100;busy 1 2 40;");
        s.is("there for 20, back for 4", y.cost(0, NONE, 0, 0, OWN, 30, 0, 1, true), -24 * UNIT);
        s.is("there for 20, back for 10", y.cost(0, NONE, 0, 0, OWN, 29, 0, 1, true), -30 * UNIT);
        s.is("it changes nothing", y.cost(0, NONE, 0, 0, OWN, 29, 0, 1, true), -30 * UNIT);
    }

    private static void roundIs(Sentences s) {
        s.term(3, "ROUND: from a PLACE back to it over 2 to 6 ROADS, none twice");
        LastWalker one = s.told("places 2;road 0 1 1 10;own 0 0;busy 0 1 100;");
        s.is("one road, twice, is none", one.rounds(0, NONE, 0, 0, 0, 0), 0);
        s.is("two roads", s.told(RING).round(0, NONE, 0, 0, 0, 0, 0), 2);
        for (int many = 3; many <= 7; many++) {
            StringBuilder ring = new StringBuilder("places 7;own 0 0;");
            for (int r = 0; r < many; r++) ring.append("road ").append(r).append(' ').append((r + 1) % many).append(" 1 9;");
            LastWalker x = s.told(ring + "busy 0 1 9;");
            s.is("a ring of " + many, x.round(0, NONE, 0, 0, 0, 0, 0), many <= 6 ? many : NONE);
            s.is("both ways of a ring of " + many, x.rounds(0, NONE, 0, 0, 0, 0), many <= 6 ? 2 : 0);
        }
        // Places may come twice, the first one too: 0 1 0 1 0 over all four.
        LastWalker four = s.told("places 2;road 0 1 1 10;road 0 1 1 10;road 0 1 1 10;road 0 1 1 10;own 0 1;"
                + "busy 0 1 100;busy 1 1 100;busy 2 1 100;busy 3 1 100;");
        s.is("over four roads", four.round(0, NONE, 0, 0, 0, 0, 0), 4);
        for (int i = 0; i < 4; i++) s.is("road " + i, four.round(0, NONE, 0, 0, 0, 0, 10 + i), i);
        // A round over 1 and 2, there and back by another road, passes 1 twice.
        LastWalker eight = s.told("places 3;road 0 1 1 9;road 0 1 1 9;road 1 2 1 9;road 1 2 1 9;own 0 0;"
                + "busy 0 1 100;busy 1 1 100;busy 2 1 100;busy 3 1 100;");
        s.is("one between twice", eight.round(0, NONE, 0, 0, 0, 0, 0), 4);
        int[] row = {0, 2, 3, 1};
        for (int i = 0; i < 4; i++) s.is("road " + i, eight.round(0, NONE, 0, 0, 0, 0, 10 + i), row[i]);
    }

    private static void bestRound(Sentences s) {
        s.term(3, "that with the least COST of own, below 0; of several as above");
        // 2 minutes for two pennies of worth are 0, which is not below.
        LastWalker none = s.told("places 2;road 0 1 1 1;road 0 1 1 1;own 0 1;busy 0 1 100;busy 1 1 100;");
        s.is("0 is no round", none.round(0, NONE, 0, 0, 0, 0, 0), NONE);
        s.is("0 is no gain", none.gain(0, NONE, 0, 0, 0, 0), 0);
        LastWalker least = s.told("places 2;road 0 1 1 1;road 0 1 1 2;own 0 1;busy 0 1 100;busy 1 1 50;busy 1 2 1;");
        s.is("a hundredth below is one", least.round(0, NONE, 0, 0, 0, 0, 0), 2);
        s.is("its cost", least.gain(0, NONE, 0, 0, 0, 0), -UNIT / 100);
        // What it brings at its end counts: 40 less 99.
        LastWalker end = s.told("places 2;road 0 1 20 0;road 1 0 20 99;own 0 1;busy 1 3 100;");
        s.is("road 1 brings 99", end.gain(0, NONE, 0, 0, 140, 0), -59 * UNIT);
        s.is("at 160 it does", end.rounds(0, NONE, 0, 0, 140, 0), 2);
        s.is("at 180 it does not", end.rounds(0, NONE, 0, 0, 160, 0), 1);
        // Whatever kind he is of, a round's cost is that of own.
        s.is("of short", s.told(RING.replace("own 0 1", "short 0 1")).gain(0, NONE, 0, 0, 0, 0), -17 * UNIT);
        s.is("of cheap", s.told(RING.replace("own 0 1", "cheap 0 1")).gain(0, NONE, 0, 0, 0, 0), -17 * UNIT);
        // Of equal cost the fewest roads: roads 0 and 1 cost and bring nothing; then the least row.
        LastWalker x = s.told("places 2;road 0 1 1 0;road 0 1 1 0;road 0 1 1 5;road 0 1 1 5;own 0 0;busy 2 1 100;busy 3 1 100;");
        s.is("the fewest roads", x.round(0, NONE, 0, 0, 0, 0, 0), 2);
        s.is("the least row", x.round(0, NONE, 0, 0, 0, 0, 10), 2);
        s.is("the least row", x.round(0, NONE, 0, 0, 0, 0, 11), 3);
        s.is("from the other place", x.round(0, NONE, 0, 0, 0, 1, 10), 2);
        LastWalker y = s.told("places 2;road 0 1 1 0;road 0 1 1 9;road 0 1 1 0;own 0 0;busy 1 1 100;");
        s.is("road 0 ahead of 1", y.round(0, NONE, 0, 0, 0, 0, 10), 0);
        s.is("1 behind it", y.round(0, NONE, 0, 0, 0, 0, 11), 1);
        // Walked at its minute: behind 60 road 1 has no worth.
        s.is("each road at its minute", s.told("places 2;road 0 1 30 9;road 0 1 1 9;own 0 0;busy 0 1 100;busy 1 1 100;")
                .gain(0, NONE, 0, 0, 30, 0), -18 * UNIT);
        s.is("the later one first", s.told("places 2;road 0 1 30 9;road 0 1 1 9;own 0 0;busy 0 1 100;busy 1 1 100;")
                .round(0, NONE, 0, 0, 30, 0, 10), 1);
    }

    private static void manyRounds(Sentences s) {
        s.term(5, "ROUNDS: how many there are, for one at a MINUTE from a PLACE, with COST of own below 0 (each row of ROADS).");
        LastWalker x = s.told(RING);
        s.is("either way round", x.rounds(0, NONE, 0, 0, 0, 0), 2);
        s.is("from the other place", x.rounds(0, NONE, 0, 0, 0, 1), 2);
        s.is("of 1, who cares: 18 less 19", x.rounds(0, NONE, 0, 1, 0, 0), 2);
        s.is("at 60", x.rounds(0, NONE, 0, 0, 60, 0), 0);
        s.is("at 59, the second road is walked too late", x.rounds(0, NONE, 0, 0, 59, 0), 2);
        s.is("at 59, of 1", x.rounds(0, NONE, 0, 1, 59, 0), 0);
        // Of three roads, each worth 9: six of two; none of three ends.
        String three = "places 2;road 0 1 1 9;road 0 1 1 9;road 0 1 1 9;own 0 0;busy 0 1 100;busy 1 1 100;busy 2 1 100;";
        s.is("rows of three roads", s.told(three).rounds(0, NONE, 0, 0, 0, 0), 6);
        // Cost 0 does not count.
        s.is("cost 0", s.told("places 2;road 0 1 1 1;road 0 1 1 1;own 0 1;busy 0 1 100;busy 1 1 100;").rounds(0, NONE, 0, 0, 0, 0), 0);
        // Nor where a further road would bring something: 0 and 1 cost 0, with 2 each is below.
        s.is("cost 0 among others", s.told("places 2;road 0 1 1 1;road 0 1 1 1;road 0 1 1 5;own 0 1;busy 0 1 100;busy 1 1 100;busy 2 1 100;")
                .rounds(0, NONE, 0, 0, 0, 0), 4);
        // Of six roads: 6 * 5, 6 * 5 * 4 * 3 and all 720.
        StringBuilder six = new StringBuilder("places 2;own 0 0;first;");
        for (int r = 0; r < 6; r++) six.append("road 0 1 1 9;busy ").append(r).append(" 1 1;");
        s.is("rows of six roads", s.told(six.toString()).rounds(0, NONE, 0, 0, 0, 0), 30 + 360 + 720);
    }

    // -------------------------------------------- promises 16 to 19 and 39

    private static void way(Sentences s) {
        LastWalker x = s.told(TOWN, "go 0 1;", "go 0 0;wait 10;");
        s.promise(16, "The BEST of a KIND for one, at a MINUTE, 0 .. 999, from one PLACE to another one, what 0: how many ROADS, 1: MINUTES, 2: what he PAYS, 10 + i: ROAD i.");
        int[] due = {2, 15, 3};
        for (int minute : new int[] {0, 999}) {
            for (int w = 0; w < 3; w++) s.is("what " + w, x.way(0, NONE, 0, 0, SHORT, minute, 0, 2, w), due[w]);
            for (int i = 0; i < 2; i++) s.is("road " + i, x.way(0, NONE, 0, 0, SHORT, minute, 0, 2, 10 + i), i);
        }
        s.is("what 1 pays", x.way(0, NONE, 0, 1, SHORT, 0, 0, 2, 2), 0);
        s.is("what 1 pays in a state", x.way(0, 1, 1, 1, SHORT, 0, 0, 2, 2), 4);
        s.promise(16, "-2: there is no WAY, both are one, there is no such STATE, or none such (of any).");
        s.is("no way", x.way(0, NONE, 0, 0, SHORT, 0, 0, 3, 0), -2);
        s.is("no way from there", x.way(0, NONE, 0, 0, SHORT, 0, 3, 0, 0), -2);
        for (int p = 0; p < 4; p++) s.is("both are " + p, x.way(0, NONE, 0, 0, SHORT, 0, p, p, 0), -2);
        for (int town : new int[] {1, -1, FAR[0], FAR[1]}) s.is("town " + town, x.way(town, NONE, 0, 0, SHORT, 0, 0, 2, 0), -2);
        for (int day : new int[] {2, -2, FAR[0], FAR[1]}) s.is("day " + day, x.way(0, day, 0, 0, SHORT, 0, 0, 2, 0), -2);
        for (int n : new int[] {1, -1, FAR[0], FAR[1]}) {
            s.is("day NONE, n " + n, x.way(0, NONE, n, 0, SHORT, 0, 0, 2, 0), -2);
            s.is("day 0 stops at 0, n " + n, x.way(0, 0, n, 0, SHORT, 0, 0, 2, 0), -2);
        }
        s.is("day 1, n 2", x.way(0, 1, 2, 0, SHORT, 0, 0, 2, 0), 2);
        s.is("day 1, n 3", x.way(0, 1, 3, 0, SHORT, 0, 0, 2, 0), -2);
        for (int one : new int[] {2, 7, 8, -1, FAR[0], FAR[1]}) s.is("one " + one, x.way(0, NONE, 0, one, SHORT, 0, 0, 2, 0), -2);
        for (int kind : new int[] {3, -1, FAR[0], FAR[1]}) s.is("kind " + kind, x.way(0, NONE, 0, 0, kind, 0, 0, 2, 0), -2);
        for (int minute : new int[] {1000, -1, FAR[0], FAR[1]}) s.is("minute " + minute, x.way(0, NONE, 0, 0, SHORT, minute, 0, 2, 0), -2);
        for (int p : new int[] {4, 8, 9, -1, FAR[0], FAR[1]}) {
            s.is("from " + p, x.way(0, NONE, 0, 0, SHORT, 0, p, 2, 0), -2);
            s.is("to " + p, x.way(0, NONE, 0, 0, SHORT, 0, 0, p, 0), -2);
        }
        for (int what : new int[] {3, 9, 12, -1, FAR[0], FAR[1]}) s.is("what " + what, x.way(0, NONE, 0, 0, SHORT, 0, 0, 2, what), -2);
    }

    private static void cost(Sentences s) {
        LastWalker x = s.told(TOWN, "go 0 1;", "go 0 0;wait 10;");
        s.promise(17, "COST of it, or (back) THERE AND BACK.");
        for (int minute : new int[] {0, 999}) {
            s.is("there", x.cost(0, NONE, 0, 0, SHORT, minute, 0, 2, false), 15 * UNIT);
            s.is("and back", x.cost(0, NONE, 0, 0, SHORT, minute, 0, 2, true), 30 * UNIT);
        }
        s.promise(17, "The least long: as way().");
        for (int b = 0; b < 2; b++) {
            boolean back = b == 1;
            s.is("no way", x.cost(0, NONE, 0, 0, SHORT, 0, 0, 3, back), NO_COST);
            s.is("both are one", x.cost(0, NONE, 0, 0, SHORT, 0, 1, 1, back), NO_COST);
            for (int town : new int[] {1, -1, FAR[0], FAR[1]}) s.is("town " + town, x.cost(town, NONE, 0, 0, SHORT, 0, 0, 2, back), NO_COST);
            for (int day : new int[] {2, -2, FAR[0], FAR[1]}) s.is("day " + day, x.cost(0, day, 0, 0, SHORT, 0, 0, 2, back), NO_COST);
            for (int n : new int[] {1, -1, FAR[0], FAR[1]}) {
                s.is("day NONE, n " + n, x.cost(0, NONE, n, 0, SHORT, 0, 0, 2, back), NO_COST);
                s.is("day 0, n " + n, x.cost(0, 0, n, 0, SHORT, 0, 0, 2, back), NO_COST);
            }
            for (int one : new int[] {2, -1, FAR[0], FAR[1]}) s.is("one " + one, x.cost(0, NONE, 0, one, SHORT, 0, 0, 2, back), NO_COST);
            for (int kind : new int[] {3, -1, FAR[0], FAR[1]}) s.is("kind " + kind, x.cost(0, NONE, 0, 0, kind, 0, 0, 2, back), NO_COST);
            for (int m : new int[] {1000, -1, FAR[0], FAR[1]}) s.is("minute " + m, x.cost(0, NONE, 0, 0, SHORT, m, 0, 2, back), NO_COST);
            for (int p : new int[] {4, 9, -1, FAR[0], FAR[1]}) {
                s.is("from " + p, x.cost(0, NONE, 0, 0, SHORT, 0, p, 2, back), NO_COST);
                s.is("to " + p, x.cost(0, NONE, 0, 0, SHORT, 0, 0, p, back), NO_COST);
            }
        }
    }

    private static void round(Sentences s) {
        LastWalker x = s.told(RING, "go 0 0;", "go 2 0;");
        s.promise(18, "ROUND for one at a MINUTE, 0 .. 999, from a PLACE, what 0: how many ROADS, 10 + i: ROAD i.");
        s.is("roads", x.round(0, NONE, 0, 0, 0, 0, 0), 2);
        s.is("road 0", x.round(0, NONE, 0, 0, 0, 0, 10), 0);
        s.is("road 1", x.round(0, NONE, 0, 0, 0, 0, 11), 1);
        s.is("in a state", x.round(0, 0, 1, 0, 0, 0, 0), 2);
        LastWalker late = s.told("places 2;road 0 1 1 9;road 0 1 1 9;own 0 0;busy 0 5 100;");
        s.is("at 299", late.round(0, NONE, 0, 0, 299, 0, 0), 2);
        s.promise(18, "NONE: there is none, no such STATE, or none such (of any).");
        s.is("none at 300", late.round(0, NONE, 0, 0, 300, 0, 0), NONE);
        s.is("none at 999", late.round(0, NONE, 0, 0, 999, 0, 0), NONE);
        for (int town : new int[] {1, -1, FAR[0], FAR[1]}) s.is("town " + town, x.round(town, NONE, 0, 0, 0, 0, 0), NONE);
        for (int day : new int[] {2, -2, FAR[0], FAR[1]}) s.is("day " + day, x.round(0, day, 0, 0, 0, 0, 0), NONE);
        for (int n : new int[] {1, -1, FAR[0], FAR[1]}) {
            s.is("day NONE, n " + n, x.round(0, NONE, n, 0, 0, 0, 0), NONE);
            s.is("day 1, n " + n, x.round(0, 1, n, 0, 0, 0, 0), NONE);
        }
        for (int one : new int[] {2, 8, -1, FAR[0], FAR[1]}) s.is("one " + one, x.round(0, NONE, 0, one, 0, 0, 0), NONE);
        for (int minute : new int[] {1000, -1, FAR[0], FAR[1]}) s.is("minute " + minute, x.round(0, NONE, 0, 0, minute, 0, 0), NONE);
        for (int from : new int[] {2, 9, -1, FAR[0], FAR[1]}) s.is("from " + from, x.round(0, NONE, 0, 0, 0, from, 0), NONE);
        for (int what : new int[] {1, 2, 9, 12, 16, -1, FAR[0], FAR[1]}) s.is("what " + what, x.round(0, NONE, 0, 0, 0, 0, what), NONE);
    }

    private static void gain(Sentences s) {
        LastWalker x = s.told(RING, "go 0 0;", "go 2 0;");
        s.promise(19, "COST of ROUND.");
        s.is("2 less 19", x.gain(0, NONE, 0, 0, 0, 0), -17 * UNIT);
        s.is("road 0 is his", x.gain(0, 0, 1, 0, 0, 0), -7 * UNIT);
        s.is("it is another one's", x.gain(0, 0, 1, 1, 0, 0), 0);
        s.promise(19, "0: as round().");
        s.is("none", x.gain(0, NONE, 0, 0, 60, 0), 0);
        for (int town : new int[] {1, -1, FAR[0], FAR[1]}) s.is("town " + town, x.gain(town, NONE, 0, 0, 0, 0), 0);
        for (int day : new int[] {2, -2, FAR[0], FAR[1]}) s.is("day " + day, x.gain(0, day, 0, 0, 0, 0), 0);
        for (int n : new int[] {1, -1, FAR[0], FAR[1]}) {
            s.is("day NONE, n " + n, x.gain(0, NONE, n, 0, 0, 0), 0);
            s.is("day 1, n " + n, x.gain(0, 1, n, 0, 0, 0), 0);
        }
        for (int one : new int[] {2, 8, -1, FAR[0], FAR[1]}) s.is("one " + one, x.gain(0, NONE, 0, one, 0, 0), 0);
        for (int minute : new int[] {1000, -1, FAR[0], FAR[1]}) s.is("minute " + minute, x.gain(0, NONE, 0, 0, minute, 0), 0);
        for (int from : new int[] {2, 9, -1, FAR[0], FAR[1]}) s.is("from " + from, x.gain(0, NONE, 0, 0, 0, from), 0);
    }

    private static void rounds(Sentences s) {
        LastWalker x = s.told(RING, "go 0 0;", "go 2 0;");
        s.promise(39, "ROUNDS.");
        s.is("two", x.rounds(0, NONE, 0, 0, 0, 0), 2);
        s.is("in a state", x.rounds(0, 0, 1, 0, 0, 0), 2);
        s.is("none", x.rounds(0, 0, 1, 1, 0, 0), 0);
        s.promise(39, "NONE: there is no such STATE, or none such (of any; MINUTES 0 .. 999).");
        for (int town : new int[] {1, -1, FAR[0], FAR[1]}) s.is("town " + town, x.rounds(town, NONE, 0, 0, 0, 0), NONE);
        for (int day : new int[] {2, -2, FAR[0], FAR[1]}) s.is("day " + day, x.rounds(0, day, 0, 0, 0, 0), NONE);
        for (int n : new int[] {1, -1, FAR[0], FAR[1]}) {
            s.is("day NONE, n " + n, x.rounds(0, NONE, n, 0, 0, 0), NONE);
            s.is("day 1, n " + n, x.rounds(0, 1, n, 0, 0, 0), NONE);
        }
        for (int one : new int[] {2, 8, -1, FAR[0], FAR[1]}) s.is("one " + one, x.rounds(0, NONE, 0, one, 0, 0), NONE);
        for (int minute : new int[] {1000, -1, FAR[0], FAR[1]}) s.is("minute " + minute, x.rounds(0, NONE, 0, 0, minute, 0), NONE);
        s.is("minute 999", x.rounds(0, NONE, 0, 0, 999, 0), 0);
        for (int from : new int[] {2, 9, -1, FAR[0], FAR[1]}) s.is("from " + from, x.rounds(0, NONE, 0, 0, 0, from), NONE);
    }
}
