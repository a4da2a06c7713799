/** Promises 28 to 32 and what term 4 says of NEEDS, BRIDGES, LIVE, LEFT and DAYS, sentence by sentence. */
final class PlaceBounds {
    private static final int NONE = LastWalker.NONE;
    private static final int NO_SUM = -100000;
    private static final int[] FAR = {Integer.MIN_VALUE, Integer.MAX_VALUE};
    /** 0 to 1 by one road, 1 to 2 by two; 3 to 4 apart from them; 5 alone. */
    private static final String APART = "places 6;road 0 1 5 1;road 1 2 5 1;road 1 2 9 1;road 3 4 2 1;own 0 1;own 3 1;own 0 1;"
            + "errand 0 2 0 1;errand 0 0 0 1;errand 0 3 0 1;errand 1 4 0 1;errand 1 4 0 1;";
    /** 0 goes ahead of 1, each day, along one road of 7 minutes for 5. */
    private static final String DAILY = "places 2;road 0 1 7 5;short 0 0;short 0 0;errand 0 1 0 100;errand 1 1 9 100;";

    static void test(Sentences s) {
        needsIs(s);
        bridgesIs(s);
        liveIs(s);
        leftIs(s);
        drawn(s);
        eachDay(s);
        needs(s);
        live(s);
        left(s);
        minutes(s);
        days(s);
    }

    // ---------------------------------------------------------------- term 4

    private static void needsIs(Sentences s) {
        s.term(4, "NEEDS of a ROAD: ERRANDS (bits) for which there is a WAY from the one's HOME to their PLACE, and none without it.");
        LastWalker x = s.told(APART);
        int[] due = {1, 0, 0, 24};
        for (int r = 0; r < 4; r++) s.is("road " + r, x.needs(0, r), due[r]);
        // Errand 1 leads home, errand 2 has no way: no road is needed for them.
        s.is("none needs for them", (x.needs(0, 0) | x.needs(0, 1) | x.needs(0, 2) | x.needs(0, 3)) & 6, 0);
        s.is("all twelve", s.told("road 0 1 1 1;own 0 1;" + "errand 0 1 0 1;".repeat(12)).needs(0, 0), 4095);
        s.is("whatever LIKELY is", s.told("road 0 1 1 1;own 0 1;errand 0 1 0 0;").needs(0, 0), 1);
        // Over nine places, by a long way round too.
        StringBuilder ring = new StringBuilder("places 9;own 0 1;errand 0 8 0 1;road 0 1 1 1;");
        for (int p = 8; p > 1; p--) ring.append("road ").append(p).append(' ').append(p - 1).append(" 1 1;");
        s.is("the line needs each", s.told(ring.toString()).needs(0, NONE), 255);
        s.is("the ring none", s.told(ring + "road 8 0 30 1;").needs(0, NONE), 0);
    }

    private static void bridgesIs(Sentences s) {
        s.term(4, "BRIDGES: ROADS (bits) that some ERRAND NEEDS.");
        s.is("roads 0 and 3", s.told(APART).needs(0, NONE), 9);
        s.is("no errands", s.told("road 0 1 1 1;own 0 1;").needs(0, NONE), 0);
        s.is("no roads", s.told("own 0 1;errand 0 1 0 1;").needs(0, NONE), 0);
        s.is("14 roads, none alone", s.told("places 9;" + "road 7 8 1 1;".repeat(14) + "own 7 1;errand 0 8 0 1;").needs(0, NONE), 0);
        s.is("road 13", s.told("places 4;" + "road 1 2 1 1;".repeat(13) + "road 0 3 1 1;own 0 1;errand 0 3 0 1;").needs(0, NONE), 8192);
    }

    private static void liveIs(Sentences s) {
        s.term(4, "LIVE of one: the PLACE from which the fewest MINUTES to the PLACES of all his ERRANDS, together, are least (there being WAYS to all); of several the least.");
        LastWalker x = s.told(APART);
        s.is("0, 2 and 3: nowhere", x.live(0, 0, false), NONE);
        s.is("twice to 4", x.live(0, 1, false), 4);
        s.is("no errands", x.live(0, 2, false), 0);
        String line = "places 4;road 0 1 5 1;road 1 2 5 1;road 1 2 3 1;own 3 1;";
        LastWalker y = s.told(line + "errand 0 2 0 1;errand 0 0 0 1;");
        s.is("of three the least", y.live(0, 0, false), 0);
        s.is("8", y.live(0, 0, true), 8);
        LastWalker z = s.told(line + "errand 0 2 0 1;errand 0 0 0 1;errand 0 2 0 0;");
        s.is("each errand counts", z.live(0, 0, false), 2);
        s.is("8", z.live(0, 0, true), 8);
        s.is("another one's do not", s.told(line + "own 0 1;errand 1 0 0 1;errand 0 2 0 1;").live(0, 0, false), 2);
        s.is("the last of nine", s.told("places 9;road 7 8 5 1;own 7 1;errand 0 8 0 1;").live(0, 0, false), 8);
        s.is("without roads, one place", s.told("own 0 1;errand 0 3 0 1;errand 0 3 9 1;").live(0, 0, false), 3);
        s.is("without roads, two places", s.told("own 0 1;errand 0 3 0 1;errand 0 2 9 1;").live(0, 0, false), NONE);
    }

    private static void leftIs(Sentences s) {
        s.term(4, "LEFT of a PLACE: how many PLACES there are no WAYS to.");
        LastWalker x = s.told(APART);
        int[] due = {3, 3, 3, 4, 4, 5};
        for (int p = 0; p < 6; p++) s.is("left " + p, x.left(0, p), due[p]);
        s.is("no roads", s.told("places 9;").left(0, 8), 8);
        s.is("all are joined", s.told("places 2;road 1 0 1 1;").left(0, 0), 0);
        // Roads told from the far end on.
        StringBuilder line = new StringBuilder("places 9;");
        for (int p = 8; p > 0; p--) line.append("road ").append(p).append(' ').append(p - 1).append(" 1 1;");
        for (int p = 0; p < 9; p++) s.is("in a line from " + p, s.told(line.toString()).left(0, p), 0);
    }

    private static String likely(int first, int second) {
        return "places 2;road 0 1 7 0;own 0 0;own 0 0;errand 0 1 0 " + first + ";errand 1 1 0 " + second + ";";
    }

    private static void drawn(Sentences s) {
        s.term(4, "DAYS by a SEED, x; a number below n is drawn: x becomes x * 1103515245 + 12345 (of 32 bits), it is x shifted right by 16 without sign, remainder by n.");
        // 0: x is 12345, then 3554416254: 0 and 54236.
        s.is("0 is below 1, 36 is below 37", s.told(likely(1, 37)).days(0, 0, 1, 0), 14);
        s.is("36 is not below 36", s.told(likely(1, 36)).days(0, 0, 1, 0), 7);
        s.is("0 is not below 0", s.told(likely(0, 37)).days(0, 0, 1, 0), 7);
        // -1: x is 3191464396, that is 48697; as a number below 0 it would be -16839.
        s.is("97 is below 98", s.told(likely(98, 0)).days(0, -1, 1, 0), 7);
        s.is("97 is not below 97", s.told(likely(97, 0)).days(0, -1, 1, 0), 0);
        // The largest seed: x is 1043980748, that is 15929; the least: 2147495993, that is 32768.
        s.is("29 is below 30", s.told(likely(30, 0)).days(0, Integer.MAX_VALUE, 1, 0), 7);
        s.is("29 is not below 29", s.told(likely(29, 0)).days(0, Integer.MAX_VALUE, 1, 0), 0);
        s.is("68 is below 69", s.told(likely(69, 0)).days(0, Integer.MIN_VALUE, 1, 0), 7);
        s.is("68 is not below 68", s.told(likely(68, 0)).days(0, Integer.MIN_VALUE, 1, 0), 0);
    }

    private static void eachDay(Sentences s) {
        s.term(4, "Each day: of ERRANDS, by numbers, those are gone of which a number below 100 is below LIKELY; all begin at HOME; ROADS are whose they were at night.");
        // Numbers are drawn for both errands, gone or not: 0 and 36 on the first day, 56 and 85 on the second.
        int[][] due = {{0, 0, 0}, {1, 36, 1}, {1, 37, 2}, {56, 85, 2}, {57, 85, 3}, {57, 86, 4}, {0, 86, 2}, {0, 85, 1}};
        for (int[] d : due) s.is("two days of " + d[0] + " and " + d[1], s.told(likely(d[0], d[1])).days(0, 0, 2, 0), 7 * d[2]);
        s.is("0 of 100 never", s.told(likely(0, 0)).days(0, 77, 30, 0), 0);
        s.is("100 of 100 always", s.told(likely(100, 100)).days(0, 77, 30, 0), 30 * 14);
        LastWalker y = s.told(DAILY);
        for (int n : new int[] {1, 2, 30}) {
            s.is(n + " days from home", y.days(0, 1, n, 0), 14 * n);
            // On the first day 1 pays 0; on each other one 0 pays 1 first.
            s.is(n + " days, paid", y.days(0, 1, n, 1), 5 * (2 * n - 1));
            s.is(n + " days, whose", y.days(0, 1, n, 10), 1);
        }
        s.is("by first 1 pays each day", s.told(DAILY + "first;").days(0, 1, 3, 31), -15);
        s.is("by none nobody pays", s.told(DAILY + "has 1 0;none;").days(0, 1, 3, 1), 0);
        s.is("at first it is 1's", s.told(DAILY + "has 1 0;").days(0, 1, 1, 1), 10);
        // The clock begins anew: ahead of noon the road is 0's and then 1's on each day, as by last.
        s.is("by noon 6", s.told(DAILY.replace("errand 1 1 9", "errand 1 1 5") + "noon 6;").days(0, 1, 3, 1), 25);
        s.is("by noon 1 it stays 0's", s.told(DAILY + "noon 1;").days(0, 1, 3, 30), 15);
        s.is("nothing has changed", y.road(0, 0, 4), NONE);
    }

    // ---------------------------------------------------- promises 28 to 32

    private static void needs(Sentences s) {
        LastWalker x = s.told(APART);
        s.promise(28, "NEEDS (bits), or (road NONE) BRIDGES.");
        s.is("needs", x.needs(0, 3), 24);
        s.is("bridges", x.needs(0, NONE), 9);
        s.promise(28, "NONE: there is none such (of either).");
        for (int town : new int[] {1, -1, FAR[0], FAR[1]}) {
            s.is("town " + town, x.needs(town, 0), NONE);
            s.is("bridges of town " + town, x.needs(town, NONE), NONE);
        }
        for (int road : new int[] {4, 13, 14, -2, FAR[0], FAR[1]}) s.is("road " + road, x.needs(0, road), NONE);
    }

    private static void live(Sentences s) {
        LastWalker x = s.told(APART);
        s.promise(29, "LIVE, or (much) those MINUTES.");
        s.is("live", x.live(0, 1, false), 4);
        s.is("much", x.live(0, 1, true), 0);
        s.is("much of no errands", x.live(0, 2, true), 0);
        s.promise(29, "NONE: nowhere, or there is none such (of either).");
        for (int m = 0; m < 2; m++) {
            s.is("nowhere", x.live(0, 0, m == 1), NONE);
            for (int town : new int[] {1, -1, FAR[0], FAR[1]}) s.is("town " + town, x.live(town, 1, m == 1), NONE);
            for (int one : new int[] {3, 7, 8, -1, FAR[0], FAR[1]}) s.is("one " + one, x.live(0, one, m == 1), NONE);
        }
    }

    private static void left(Sentences s) {
        LastWalker x = s.told(APART);
        s.promise(30, "LEFT.");
        s.is("5", x.left(0, 5), 5);
        s.promise(30, "NONE: there is none such (of either).");
        for (int town : new int[] {1, -1, FAR[0], FAR[1]}) s.is("town " + town, x.left(town, 0), NONE);
        for (int place : new int[] {6, 8, 9, -1, FAR[0], FAR[1]}) s.is("place " + place, x.left(0, place), NONE);
    }

    private static void minutes(Sentences s) {
        LastWalker x = s.told(APART);
        s.promise(31, "The fewest MINUTES from one PLACE to another one (0 of one).");
        s.is("0 to 2", x.minutes(0, 0, 2), 10);
        s.is("2 to 0", x.minutes(0, 2, 0), 10);
        for (int p = 0; p < 6; p++) s.is("of " + p, x.minutes(0, p, p), 0);
        for (int over = 0; over < 3; over++) {
            int a = (over + 1) % 3;
            int b = (over + 2) % 3;
            String town = "places 3;road " + a + " " + over + " 7 0;road " + over + " " + b + " 8 0;";
            s.is("over " + over, s.told(town).minutes(0, a, b), 15);
        }
        s.is("over two roads below one", s.told("places 3;road 0 2 30 0;road 0 1 14 0;road 1 2 15 0;").minutes(0, 0, 2), 29);
        StringBuilder line = new StringBuilder("places 9;");
        for (int p = 8; p > 0; p--) line.append("road ").append(p).append(' ').append(p - 1).append(" 30 1;");
        s.is("over all", s.told(line.toString()).minutes(0, 0, 8), 240);
        s.promise(31, "NONE: there is no WAY, or none such (of any).");
        s.is("no way", x.minutes(0, 0, 3), NONE);
        s.is("no way", x.minutes(0, 5, 4), NONE);
        for (int town : new int[] {1, -1, FAR[0], FAR[1]}) s.is("town " + town, x.minutes(town, 0, 0), NONE);
        for (int place : new int[] {6, 8, 9, -1, FAR[0], FAR[1]}) {
            s.is("from " + place, x.minutes(0, place, 0), NONE);
            s.is("to " + place, x.minutes(0, 0, place), NONE);
            s.is("of " + place, x.minutes(0, place, place), NONE);
        }
    }

    private static void days(Sentences s) {
        LastWalker x = s.told(DAILY);
        s.promise(32, "DAYS by a SEED, n 1 .. 30, what 0: WALKED, 1: PAID, 3: NEEDLESS of all days, 10 + r: whose ROAD r is behind them (NONE), 30 + p: GOT less PAID of one.");
        s.is("walked", x.days(0, 1, 30, 0), 420);
        s.is("paid", x.days(0, 1, 30, 1), 295);
        s.is("needless", x.days(0, 1, 30, 3), 0);
        s.is("road 0", x.days(0, 1, 30, 10), 1);
        s.is("0: 30 of 1, 29 to 1", x.days(0, 1, 30, 30), 5);
        s.is("1", x.days(0, 1, 30, 31), -5);
        s.is("nobody's", s.told("road 0 1 7 5;").days(0, 1, 1, 10), NONE);
        s.is("12 for 9 on three days", s.told(ErrandBounds.TOLL + "errand 0 1 5 100;").days(0, 1, 3, 3), 9);
        s.promise(32, "-100000: there is none such, another n, or for another what.");
        for (int town : new int[] {1, -1, FAR[0], FAR[1]}) s.is("town " + town, x.days(town, 1, 1, 0), NO_SUM);
        for (int n : new int[] {0, 31, -1, FAR[0], FAR[1]}) s.is("n " + n, x.days(0, 1, n, 0), NO_SUM);
        for (int what : new int[] {2, 4, 5, 9, 11, 23, 24, 29, 32, 37, 38, 40, -1, FAR[0], FAR[1]}) s.is("what " + what, x.days(0, 1, 1, what), NO_SUM);
        LastWalker full = s.told("road 0 1 1 1;".repeat(14) + "own 0 1;".repeat(8));
        s.is("road 13", full.days(0, 1, 1, 23), NONE);
        s.is("no road 14", full.days(0, 1, 1, 24), NO_SUM);
        s.is("7", full.days(0, 1, 1, 37), 0);
        s.is("no 8", full.days(0, 1, 1, 38), NO_SUM);
    }
}
