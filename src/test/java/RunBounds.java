/** Promises 11 to 15 and term 2, sentence by sentence. */
final class RunBounds {
    private static final int NONE = LastWalker.NONE;
    private static final long UNIT = 1_000_000_000_000L;
    private static final int[] FAR = {Integer.MIN_VALUE, Integer.MAX_VALUE};
    /** Two roads from 0 over 1 to 2; both people at 0. */
    private static final String LINE = "places 3;road 0 1 10 4;road 1 2 5 3;own 0 1;own 0 1;";
    private static final String ONE = "places 2;road 0 1 1 5;short 0 0;short 0 0;short 1 0;";

    static void test(Sentences s) {
        beginning(s);
        go(s);
        pays(s);
        laws(s);
        clock(s);
        stop(s);
        met(s);
        states(s);
        brings(s);
        worth(s);
        run(s);
        state(s);
        paid(s);
        bringsAsked(s);
        worthAsked(s);
    }

    private static int stop(Sentences s, String town, String day) {
        return s.told(town, day).run(0, 0, 0);
    }

    // ---------------------------------------------------------------- term 2

    private static void beginning(Sentences s) {
        s.term(2, "the CLOCK is 0, all are at HOME, ROADS are whose they are at first (by LAW none nobody's)");
        String town = "places 3;road 0 1 1 5;road 0 1 1 5;short 2 0;short 1 0;has 1 0;";
        for (String law : new String[] {"last;", "first;", "noon 0;", "noon 999;", "none;"}) {
            LastWalker x = s.told(town + law, "wait 5;");
            for (int day = NONE; day <= 0; day++) {
                s.is(law + "clock", x.state(0, day, 0, 0), 0);
                s.is(law + "paid", x.state(0, day, 0, 1), 0);
                s.is(law + "0", x.state(0, day, 0, 30), 2);
                s.is(law + "1", x.state(0, day, 0, 31), 1);
                s.is(law + "came", x.state(0, day, 0, 40), 0);
                s.is(law + "road 0", x.state(0, day, 0, 10), law.equals("none;") ? NONE : 1);
                s.is(law + "road 1", x.state(0, day, 0, 11), NONE);
            }
        }
        // Nothing of one run is left for the next.
        LastWalker y = s.told(ONE, "wait 7;go 0 0;wait 3;go 1 0;");
        y.run(0, 0, 0);
        s.is("clock", y.state(0, 0, 0, 0), 0);
        s.is("place", y.state(0, 0, 0, 30), 0);
        s.is("whose", y.state(0, NONE, 0, 10), NONE);
        s.is("paid", y.paid(0, NONE, 0, 1, 0), 0);
        s.is("the same once more", y.run(0, 0, 0), 4);
    }

    private static void go(Sentences s) {
        s.term(2, "one who is there, who is at one end of a ROAD that is there, and walks no more (the CLOCK is when he came, or later)");
        s.is("the last who is there", stop(s, LINE, "go 1 0;"), 1);
        s.is("one who is not there", stop(s, LINE, "go 2 0;"), 0);
        s.is("nobody is there", stop(s, "road 0 1 1 1;", "go 0 0;"), 0);
        s.is("a road that is not there", stop(s, LINE, "go 0 2;"), 0);
        s.is("no road is there", stop(s, "own 0 1;", "go 0 0;"), 0);
        s.is("at the other end", stop(s, LINE, "go 0 0;wait 10;go 0 0;"), 3);
        s.is("at no end", stop(s, LINE, "go 0 1;"), 0);
        s.is("no more at its end", stop(s, LINE, "go 0 0;wait 10;go 0 1;wait 5;go 0 0;"), 4);
        s.is("a minute ahead", stop(s, LINE, "go 0 0;wait 9;go 0 1;"), 2);
        s.is("just then", stop(s, LINE, "go 0 0;wait 10;go 0 1;"), 3);
        s.is("later", stop(s, LINE, "go 0 0;wait 11;go 0 1;"), 3);
        s.is("at once", stop(s, LINE, "go 0 0;go 0 1;"), 1);
        s.is("another one may", stop(s, LINE, "go 0 0;go 1 0;"), 2);
    }

    private static void pays(Sentences s) {
        s.term(2, "he PAYS: the ROAD's PENNY to whose it is, if it is another one's");
        s.is("nobody's", s.told(ONE, "go 0 0;").state(0, 0, 1, 1), 0);
        s.is("his own", s.told(ONE + "has 0 0;", "go 0 0;").state(0, 0, 1, 1), 0);
        LastWalker x = s.told(ONE + "has 2 0;", "go 0 0;");
        s.is("another one's", x.state(0, 0, 1, 1), 5);
        s.is("to him", x.paid(0, 0, 1, 0, 2), 5);
        s.is("to nobody else", x.paid(0, 0, 1, 0, 1), 0);
        s.is("not ahead", x.state(0, 0, 0, 1), 0);
        LastWalker twice = s.told(ONE + "has 2 0;first;", "go 0 0;go 1 0;wait 1;go 0 0;");
        s.is("twice to one", twice.paid(0, 0, 4, 0, 2), 10);
        s.is("and once", twice.paid(0, 0, 4, 1, 2), 5);
        s.is("15 in all", twice.state(0, 0, 4, 1), 15);
        s.is("a penny of 0", s.told("road 0 1 1 0;own 0 1;own 0 1;has 1 0;", "go 0 0;").state(0, 0, 1, 1), 0);
    }

    private static void laws(Sentences s) {
        String day = "go 0 0;wait 5;go 1 0;";
        s.term(2, "then by LAW last it is his");
        LastWalker last = s.told(ONE + "has 2 0;", day);
        s.is("of another one", last.state(0, 0, 1, 10), 0);
        s.is("of the next", last.state(0, 0, 3, 10), 1);
        s.is("of nobody", s.told(ONE, day).state(0, 0, 1, 10), 0);
        s.term(2, "first: his, if it was nobody's");
        LastWalker first = s.told(ONE + "first;", day);
        s.is("nobody's", first.state(0, 0, 1, 10), 0);
        s.is("no more", first.state(0, 0, 3, 10), 0);
        s.is("another one's", s.told(ONE + "has 2 0;first;", day).state(0, 0, 3, 10), 2);
        s.term(2, "noon: his, if the CLOCK is below that MINUTE");
        s.is("below", s.told(ONE + "noon 6;", day).state(0, 0, 3, 10), 1);
        s.is("just then", s.told(ONE + "noon 5;", day).state(0, 0, 3, 10), 0);
        s.is("noon 0", s.told(ONE + "noon 0;", day).state(0, 0, 1, 10), NONE);
        s.is("noon 1", s.told(ONE + "noon 1;", day).state(0, 0, 1, 10), 0);
        s.is("noon 0, another one's", s.told(ONE + "has 2 0;noon 0;", day).state(0, 0, 3, 10), 2);
        s.is("who pays all the same", s.told(ONE + "has 2 0;noon 0;", day).state(0, 0, 3, 1), 10);
        s.is("998", s.told(ONE + "noon 999;", "wait 998;go 0 0;").state(0, 0, 2, 10), 0);
        s.is("999", s.told(ONE + "noon 999;", "wait 999;go 0 0;").state(0, 0, 2, 10), NONE);
        s.term(2, "none: nobody's");
        LastWalker none = s.told(ONE + "has 2 0;none;", day);
        for (int n = 0; n <= 3; n++) s.is("behind " + n, none.state(0, 0, n, 10), NONE);
        s.is("nobody pays", none.state(0, 0, 3, 1), 0);
    }

    private static void clock(Sentences s) {
        LastWalker x = s.told(LINE, "wait 7;go 0 0;wait 10;go 0 0;" + "wait 999;".repeat(36));
        s.term(2, "He comes to its other end MINUTES later.");
        s.is("the other end", x.state(0, 0, 2, 30), 1);
        s.is("7 and 10", x.state(0, 0, 2, 40), 17);
        s.is("the clock stands", x.state(0, 0, 2, 0), 7);
        s.is("back", x.state(0, 0, 4, 30), 0);
        s.is("17 and 10", x.state(0, 0, 4, 40), 27);
        s.is("the other one stays", x.state(0, 0, 4, 31), 0);
        s.is("since 0", x.state(0, 0, 4, 41), 0);
        s.term(2, "wait: the CLOCK is so much later.");
        s.is("7", x.state(0, 0, 1, 0), 7);
        s.is("17", x.state(0, 0, 3, 0), 17);
        s.is("36 times 999 more", x.state(0, 0, 40, 0), 17 + 36 * 999);
        s.is("he came when he came", x.state(0, 0, 40, 40), 27);
    }

    private static void stop(Sentences s) {
        s.term(2, "STOP: the first MOVE that can't be, else how many there are.");
        s.is("the first", stop(s, LINE, "go 0 1;wait 1;go 1 0;"), 0);
        s.is("the last", stop(s, LINE, "wait 1;go 0 1;"), 1);
        s.is("of two the first", stop(s, LINE, "wait 1;go 0 1;wait 1;go 0 1;"), 1);
        s.is("all can be", stop(s, LINE, "wait 1;go 0 0;"), 2);
        s.is("there are none", stop(s, LINE, ""), 0);
        s.is("forty", stop(s, LINE, "wait 1;".repeat(40)), 40);
        s.is("nobody waits", stop(s, "", "wait 1;"), 1);
    }

    private static void met(Sentences s) {
        s.term(2, "MET: of MOVES done so many on a ROAD that another one still walks then.");
        String town = "places 3;road 0 1 10 4;road 0 1 10 4;own 0 1;own 1 1;own 0 1;";
        int[] due = {1, 1, 0, 0, 0, 0, 0, 0, 2, 1, 0};
        String[] days = {
            "go 0 0;go 1 0;",
            "go 0 0;wait 9;go 1 0;",
            "go 0 0;wait 10;go 1 0;",
            "go 0 0;go 1 1;",
            "go 0 0;wait 10;go 0 0;",
            "go 0 0;",
            "",
            // The second can't be.
            "go 0 0;go 0 0;",
            // The third meets two, and is one move.
            "go 0 0;go 1 0;go 2 0;",
            // He walks another road meanwhile, on which he meets.
            "go 0 0;wait 10;go 0 1;go 1 0;go 2 1;",
            // The other one came at 10 and stays.
            "go 0 0;wait 15;go 1 0;",
        };
        for (int i = 0; i < days.length; i++) s.is(days[i], s.told(town, days[i]).run(0, 0, 1), due[i]);
        LastWalker x = s.told(town, "go 0 0;go 1 0;go 1 0;go 2 0;");
        s.is("behind the stop nothing counts", x.run(0, 0, 1), 1);
    }

    private static void states(Sentences s) {
        s.term(2, "A STATE: behind the first n MOVES, n up to STOP (DAY NONE: n 0).");
        LastWalker x = s.told(LINE, "wait 3;wait 4;go 0 1;wait 5;", "");
        int[] clocks = {0, 3, 7, -2, -2, -2};
        for (int n = 0; n < 6; n++) s.is("state " + n, x.state(0, 0, n, 0), clocks[n]);
        s.is("state -1", x.state(0, 0, -1, 0), -2);
        s.is("no moves, n 0", x.state(0, 1, 0, 0), 0);
        s.is("no moves, n 1", x.state(0, 1, 1, 0), -2);
        s.is("day NONE, n 0", x.state(0, NONE, 0, 0), 0);
        for (int n : new int[] {1, -1, FAR[0], FAR[1]}) s.is("day NONE, n " + n, x.state(0, NONE, n, 0), -2);
        LastWalker y = s.told(LINE, "wait 1;".repeat(40));
        s.is("n 40", y.state(0, 0, 40, 0), 40);
        s.is("n 41", y.state(0, 0, 41, 0), -2);
    }

    private static void brings(Sentences s) {
        s.term(2, "BRINGS of a ROAD in a STATE: what he whose it is is paid for it by further MOVES, up to STOP, until it is another one's.");
        String town = "places 2;road 0 1 1 5;road 0 1 1 7;short 0 0;short 0 0;short 0 0;has 0 0;has 0 1;";
        String day = "go 1 0;go 2 1;wait 1;go 2 0;go 1 0;";
        LastWalker last = s.told(town, day);
        s.is("until 1 has it", last.brings(0, 0, 0, 0), 5);
        s.is("1's, until 2 has it", last.brings(0, 0, 1, 0), 5);
        s.is("behind other moves too", last.brings(0, 0, 3, 0), 5);
        s.is("2's", last.brings(0, 0, 4, 0), 5);
        s.is("no further moves", last.brings(0, 0, 5, 0), 0);
        s.is("another road's moves bring it nothing", last.brings(0, 0, 0, 1), 7);
        LastWalker first = s.told(town + "first;", day);
        int[] due = {15, 10, 10, 10, 5, 0};
        for (int n = 0; n <= 5; n++) s.is("first, from " + n, first.brings(0, 0, n, 0), due[n]);
        s.is("up to STOP", s.told(town + "first;", "go 1 0;go 1 0;wait 1;go 2 0;").brings(0, 0, 0, 0), 5);
        s.is("his own walks bring nothing", s.told(town, "go 0 0;wait 1;go 0 0;go 1 0;").brings(0, 0, 0, 0), 5);
        // It is his again, but was another one's meanwhile.
        s.is("until then", s.told(town, "go 1 0;go 0 0;go 2 0;").brings(0, 0, 0, 0), 5);
        // Up to noon it is another one's, behind it it stays.
        s.is("noon 1", s.told(town + "noon 1;", "wait 1;go 1 0;go 2 0;").brings(0, 0, 0, 0), 10);
        s.is("noon 2", s.told(town + "noon 2;", "wait 1;go 1 0;go 2 0;").brings(0, 0, 0, 0), 5);
    }

    private static void worth(Sentences s) {
        String town = "places 2;road 0 1 1 10;busy 0 0 50;busy 0 1 50;busy 0 5 20;";
        s.term(2, "W is 100 to the 6; HOUR by HOUR, from h to 5: W * CHANCE / 100 counts PENNY times");
        long[] due = {8, 6, 2, 2, 2, 2, 0};
        LastWalker x = s.told(town);
        for (int h = 0; h <= 6; h++) s.is("from " + h, x.worth(0, 0, h), due[h] * UNIT);
        s.is("hour 5 alone", s.told("road 0 1 1 99;busy 0 5 100;").worth(0, 0, 0), 99 * UNIT);
        s.is("penny 0", s.told("road 0 1 1 0;busy 0 0 100;").worth(0, 0, 0), 0);
        s.term(2, "W is W * (100 - CHANCE) / 100 then by LAW last, by noon if 60 * HOUR is below that MINUTE (first: as it was)");
        String six = "road 0 1 1 1;busy 0 0 99;busy 0 1 99;busy 0 2 99;busy 0 3 99;busy 0 4 99;busy 0 5 99;";
        s.is("last, to the last figure", s.told(six).worth(0, 0, 0), UNIT - 1);
        s.is("first", s.told(six + "first;").worth(0, 0, 0), 594 * UNIT / 100);
        s.is("last, a chance of 100", s.told("road 0 1 1 9;busy 0 0 100;busy 0 1 100;").worth(0, 0, 0), 9 * UNIT);
        s.is("first, a chance of 100", s.told("road 0 1 1 9;busy 0 0 100;busy 0 1 100;first;").worth(0, 0, 0), 18 * UNIT);
        int[] noons = {0, 1, 60, 61, 300, 301, 999};
        // 12 with no hour below, 8.5 with hour 0 alone, 8 with hours 0 and 1.
        long[] tenths = {120, 85, 85, 80, 80, 80, 80};
        for (int i = 0; i < noons.length; i++) s.is("noon " + noons[i], s.told(town + "noon " + noons[i] + ";").worth(0, 0, 0), tenths[i] * UNIT / 10);
        s.is("noon 60, from 1 on", s.told(town + "noon 60;").worth(0, 0, 1), 7 * UNIT);
        s.term(2, "By none 0.");
        for (int h = 0; h <= 6; h++) s.is("from " + h, s.told(town + "none;").worth(0, 0, h), 0);
    }

    // ---------------------------------------------------- promises 11 to 15

    private static void run(Sentences s) {
        LastWalker x = s.told(LINE, "go 0 0;go 1 0;go 1 0;", "");
        s.promise(11, "Of a RUN, what 0: STOP, 1: MET.");
        s.is("stop", x.run(0, 0, 0), 2);
        s.is("met", x.run(0, 0, 1), 1);
        s.is("of no moves", x.run(0, 1, 0), 0);
        s.is("of no moves", x.run(0, 1, 1), 0);
        s.promise(11, "NONE: there is none such (of either), or for another what.");
        for (int town : new int[] {1, 2, -1, FAR[0], FAR[1]}) s.is("town " + town, x.run(town, 0, 0), NONE);
        for (int day : new int[] {2, 3, -1, -2, FAR[0], FAR[1]}) s.is("day " + day, x.run(0, day, 0), NONE);
        for (int what : new int[] {2, 10, -1, FAR[0], FAR[1]}) s.is("what " + what, x.run(0, 0, what), NONE);
    }

    private static void state(Sentences s) {
        LastWalker x = s.told(LINE + "has 1 0;", "wait 2;go 0 0;wait 10;go 0 1;", "go 2 0;");
        s.promise(12, "what 0: the CLOCK, 1: PENNIES paid in all, 10 + r: whose ROAD r is (NONE), 30 + p: the PLACE of one, or to which he walks, 40 + p: the minute when he came, or comes there.");
        int[] what = {0, 1, 10, 11, 30, 31, 40, 41};
        int[][] due = {
            {0, 0, 1, NONE, 0, 0, 0, 0}, {2, 0, 1, NONE, 0, 0, 0, 0}, {2, 4, 0, NONE, 1, 0, 12, 0},
            {12, 4, 0, NONE, 1, 0, 12, 0}, {12, 4, 0, 0, 2, 0, 17, 0},
        };
        for (int n = 0; n < due.length; n++) {
            for (int w = 0; w < what.length; w++) s.is("state " + n + " what " + what[w], x.state(0, 0, n, what[w]), due[n][w]);
        }
        s.promise(12, "-2: there is no such STATE, or for another what.");
        for (int town : new int[] {1, -1, FAR[0], FAR[1]}) s.is("town " + town, x.state(town, 0, 0, 0), -2);
        for (int day : new int[] {2, -2, FAR[0], FAR[1]}) s.is("day " + day, x.state(0, day, 0, 0), -2);
        for (int n : new int[] {5, -1, FAR[0], FAR[1]}) s.is("n " + n, x.state(0, 0, n, 0), -2);
        s.is("behind STOP", x.state(0, 1, 1, 0), -2);
        for (int w : new int[] {2, 9, 12, 23, 24, 29, 32, 37, 38, 39, 42, 47, 48, -1, FAR[0], FAR[1]}) s.is("what " + w, x.state(0, 0, 0, w), -2);
        LastWalker full = s.told("road 0 1 1 1;".repeat(14) + "own 3 1;".repeat(8));
        s.is("road 13", full.state(0, NONE, 0, 23), NONE);
        s.is("no road 14", full.state(0, NONE, 0, 24), -2);
        s.is("7's place", full.state(0, NONE, 0, 37), 3);
        s.is("no 8", full.state(0, NONE, 0, 38), -2);
        s.is("7 came", full.state(0, NONE, 0, 47), 0);
        s.is("no 8", full.state(0, NONE, 0, 48), -2);
    }

    private static void paid(Sentences s) {
        LastWalker x = s.told(ONE + "has 2 0;", "go 0 0;go 1 0;wait 1;go 0 0;go 0 0;");
        s.promise(13, "What one paid another one by then (to himself 0).");
        int[][] due = {{0, 0, 0}, {5, 0, 0}, {5, 5, 0}, {5, 5, 0}, {5, 5, 5}};
        for (int n = 0; n < due.length; n++) {
            s.is(n + ": 0 to 2", x.paid(0, 0, n, 0, 2), due[n][0]);
            s.is(n + ": 1 to 0", x.paid(0, 0, n, 1, 0), due[n][1]);
            s.is(n + ": 0 to 1", x.paid(0, 0, n, 0, 1), due[n][2]);
            for (int p = 0; p < 3; p++) s.is(n + ": to himself", x.paid(0, 0, n, p, p), 0);
        }
        s.promise(13, "NONE: there is no such STATE, or none such (of any).");
        for (int town : new int[] {1, -1, FAR[0], FAR[1]}) s.is("town " + town, x.paid(town, 0, 0, 0, 1), NONE);
        for (int day : new int[] {1, -2, FAR[0], FAR[1]}) s.is("day " + day, x.paid(0, day, 0, 0, 1), NONE);
        for (int n : new int[] {5, 6, -1, FAR[0], FAR[1]}) s.is("n " + n, x.paid(0, 0, n, 0, 1), NONE);
        for (int p : new int[] {3, 7, 8, -1, FAR[0], FAR[1]}) {
            s.is("from " + p, x.paid(0, 0, 0, p, 0), NONE);
            s.is("to " + p, x.paid(0, 0, 0, 0, p), NONE);
            s.is("to himself " + p, x.paid(0, 0, 0, p, p), NONE);
        }
        s.is("day NONE", x.paid(0, NONE, 0, 0, 1), 0);
        s.is("day NONE, n 1", x.paid(0, NONE, 1, 0, 1), NONE);
        LastWalker full = s.told("road 0 1 1 9;" + "own 0 1;".repeat(8) + "has 6 0;", "go 7 0;");
        s.is("7 to 6", full.paid(0, 0, 1, 7, 6), 9);
        s.is("6 to 7", full.paid(0, 0, 1, 6, 7), 0);
    }

    private static void bringsAsked(Sentences s) {
        LastWalker x = s.told(ONE + "road 0 1 1 9;has 2 0;", "go 0 0;");
        s.promise(14, "BRINGS.");
        s.is("road 0", x.brings(0, 0, 0, 0), 5);
        s.is("by day NONE nothing more", x.brings(0, NONE, 0, 0), 0);
        s.promise(14, "NONE: it is nobody's, there is no such STATE, or ROAD.");
        s.is("nobody's", x.brings(0, 0, 0, 1), NONE);
        s.is("nobody's by none", s.told(ONE + "has 2 0;none;", "go 0 0;").brings(0, 0, 0, 0), NONE);
        for (int town : new int[] {1, -1, FAR[0], FAR[1]}) s.is("town " + town, x.brings(town, 0, 0, 0), NONE);
        for (int day : new int[] {1, -2, FAR[0], FAR[1]}) s.is("day " + day, x.brings(0, day, 0, 0), NONE);
        for (int n : new int[] {2, -1, FAR[0], FAR[1]}) s.is("n " + n, x.brings(0, 0, n, 0), NONE);
        s.is("day NONE, n 1", x.brings(0, NONE, 1, 0), NONE);
        for (int road : new int[] {2, 13, 14, -1, FAR[0], FAR[1]}) s.is("road " + road, x.brings(0, 0, 0, road), NONE);
    }

    private static void worthAsked(Sentences s) {
        LastWalker x = s.told("road 0 1 1 1;busy 0 0 100;busy 0 5 100;");
        s.promise(15, "WORTH from HOUR h, 0 .. 6, on.");
        s.is("0", x.worth(0, 0, 0), UNIT);
        s.is("5", x.worth(0, 0, 5), UNIT);
        s.is("6", x.worth(0, 0, 6), 0);
        s.promise(15, "NONE: there is none such (of any).");
        for (int town : new int[] {1, -1, FAR[0], FAR[1]}) s.is("town " + town, x.worth(town, 0, 0), NONE);
        for (int road : new int[] {1, 13, 14, -1, FAR[0], FAR[1]}) s.is("road " + road, x.worth(0, road, 0), NONE);
        for (int h : new int[] {7, -1, FAR[0], FAR[1]}) s.is("hour " + h, x.worth(0, 0, h), NONE);
        s.is("by none, hour 7", s.told("road 0 1 1 1;none;").worth(0, 0, 7), NONE);
    }
}
