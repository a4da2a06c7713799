/** Promises 20, 21, 33 to 35, 37, 38 and what terms 4 and 5 say of ALL, sentence by sentence. */
final class ErrandBounds {
    private static final int NONE = LastWalker.NONE;
    private static final int NO_SUM = -100000;
    private static final int[] FAR = {Integer.MIN_VALUE, Integer.MAX_VALUE};
    /** One line 0 1 2: 0 goes to 2 and pays 3 to 2; 1 goes to 1 and pays 4 to 0; 2 goes to 0 and pays 3 to 0, 4 to 1. */
    static final String LINE = "places 3;road 0 1 10 4;road 1 2 5 3;own 0 1;cheap 0 2;short 2 0;has 2 1;"
            + "errand 0 2 0 100;errand 1 1 60 100;errand 2 0 90 100;";
    /** A long road for nothing, a short one for 50, which is 1's. */
    static final String TOLL = "places 2;road 0 1 12 0;road 0 1 9 50;cheap 0 1;short 0 0;has 1 1;";
    /** Eight with twelve errands along one road of nine places: 0 .. 7, then 0 .. 3 back. */
    static final String FULL = "places 9;road 7 8 3 7;" + "short 7 1;".repeat(8) + "errand 0 8 0 1;errand 1 8 1 1;errand 2 8 2 1;errand 3 8 3 1;"
            + "errand 4 8 4 1;errand 5 8 5 1;errand 6 8 6 1;errand 7 8 7 1;errand 0 7 8 1;errand 1 7 9 1;errand 2 7 10 1;errand 3 7 11 1;";
    /** Bits that are no errands of a town with three. */
    static final int[] NO_BITS = {8, 9, 15, 4096, -1, -8, FAR[0], FAR[1]};

    static void test(Sentences s) {
        order(s);
        goes(s);
        nothing(s);
        sums(s);
        needless(s);
        net(s);
        visitsAndIdle(s);
        lateAndWaits(s);
        stillMovedWithout(s);
        all(s);
        night(s);
        visits(s);
        whole(s);
        still(s);
        moved(s);
        without(s);
    }

    // ---------------------------------------------------------- terms 4 and 5

    private static void order(Sentences s) {
        s.term(4, "ALL ERRANDS (some, bits) in a TOWN from a STATE of ROADS at first on: by MINUTES, of one MINUTE by numbers");
        String road = "places 3;road 0 1 20 4;road 1 2 30 5;short 0 1;short 0 1;";
        s.is("by minutes: 0 1 2", s.told(road + "errand 0 2 1 1;errand 0 1 0 1;").all(0, 3, 0, 0), 50);
        s.is("of one minute: 0 2 1", s.told(road + "errand 0 2 1 1;errand 0 1 1 1;").all(0, 3, 0, 0), 80);
        s.is("by numbers: 0 2 1", s.told(road + "errand 0 2 0 1;errand 0 1 1 1;").all(0, 3, 0, 0), 80);
        LastWalker x = s.told(road + "errand 1 1 359 1;errand 0 1 358 1;");
        s.is("1 pays", x.all(0, 3, 1, 1), 4);
        s.is("0 does not", x.all(0, 3, 0, 1), 0);
        LastWalker y = s.told(road + "errand 1 1 359 1;errand 0 1 359 1;");
        s.is("0 pays", y.all(0, 3, 0, 1), 4);
        s.is("1 does not", y.all(0, 3, 1, 1), 0);
        // Twelve, of one, each the minute ahead of the one told before: 1 0 1 0 ..
        StringBuilder twelve = new StringBuilder("places 2;road 0 1 1 0;short 0 0;");
        for (int e = 0; e < 12; e++) twelve.append("errand 0 ").append(e % 2).append(' ').append(11 - e).append(" 1;");
        s.is("twelve", s.told(twelve.toString()).all(0, 4095, 0, 0), 12);
        s.is("every second", s.told(twelve.toString()).all(0, 0b101010101010, 0, 0), 1);
        s.is("roads at first", s.told(LINE).all(0, 1, 0, 1), 3);
        s.is("by none nobody's", s.told(LINE + "none;").all(0, 7, NONE, 1), 0);
        s.is("some", s.told(LINE).all(0, 2, NONE, 0), 10);
        s.is("none of them", s.told(LINE).all(0, 0, NONE, 0), 0);
    }

    private static void goes(Sentences s) {
        s.term(4, "he goes, from where he is (HOME at first), at that MINUTE, or when he came by an earlier one, by the BEST of his KIND, ROADS being whose they are then (each ROAD of the WAY at its MINUTE, all of one WAY ahead of the next errand)");
        s.is("from home", s.told("places 3;road 0 1 20 4;road 1 2 30 5;short 2 1;errand 0 1 0 1;").all(0, 1, 0, 0), 30);
        s.is("from where he is", s.told("places 3;road 0 1 20 4;road 1 2 30 5;short 2 1;errand 0 1 0 1;errand 0 0 1 1;").all(0, 3, 0, 0), 50);
        // He comes to 1 at 20: the second errand begins then, if its minute is below, and road 1 is his ahead of noon.
        for (int minute : new int[] {1, 19, 20, 21}) {
            String town = "places 3;road 0 1 20 4;road 1 2 30 5;short 0 1;errand 0 1 0 1;errand 0 2 " + minute + " 1;noon ";
            int begun = Math.max(20, minute);
            s.is(minute + " at noon", s.told(town + begun + ";").night(0, 3, 1, 0), NONE);
            s.is(minute + " ahead of noon", s.told(town + (begun + 1) + ";").night(0, 3, 1, 0), 0);
            s.is(minute + " he comes", s.told(town + "0;").whole(0, 3, 1), begun + 30);
        }
        // By his kind: short pays 50 for 9, cheap goes 12.
        s.is("cheap", s.told(TOLL + "errand 0 1 5 1;").all(0, 1, 0, 0), 12);
        s.is("short", s.told(TOLL.replace("cheap", "short") + "errand 0 1 5 1;").all(0, 1, 0, 1), 50);
        s.is("own", s.told(TOLL.replace("cheap", "own") + "busy 1 1 100;errand 0 1 5 1;").all(0, 1, 0, 0), 9);
        s.is("own, too late", s.told(TOLL.replace("cheap", "own") + "busy 1 1 100;errand 0 1 60 1;").all(0, 1, 0, 0), 12);
        // A way's roads at their minutes: road 1 is walked at 20.
        String noon = "places 3;road 0 1 20 4;road 1 2 30 5;short 0 1;errand 0 2 0 1;";
        s.is("noon 20", s.told(noon + "noon 20;").night(0, 1, 1, 0), NONE);
        s.is("noon 21", s.told(noon + "noon 21;").night(0, 1, 1, 0), 0);
        // The third at 30, the fourth at 35.
        String far = "places 5;road 0 1 20 1;road 1 2 10 1;road 2 3 5 1;road 3 4 1 1;short 0 1;errand 0 4 0 1;noon ";
        int[] noons = {30, 31, 35, 36};
        for (int i = 0; i < 4; i++) s.is("noon " + noons[i], s.told(far + noons[i] + ";").night(0, 1, NONE, 0), 2 + (i + 1) / 2);
        // 0 walks road 1 at 20 and 1 walks it at 5, but all of 0's way is ahead of 1's errand.
        LastWalker x = s.told("places 3;road 0 1 20 4;road 1 2 30 5;short 0 1;short 1 1;errand 0 2 0 1;errand 1 2 5 1;");
        s.is("1 pays", x.all(0, 3, 1, 1), 5);
        s.is("0 does not", x.all(0, 3, 0, 1), 0);
        s.is("road 1 is 1's", x.night(0, 3, 1, 0), 1);
        // 1 is there when he came, whenever others came.
        s.is("his own coming alone", s.told("places 2;road 0 1 30 0;short 0 1;short 0 1;errand 0 1 0 1;errand 1 1 5 1;").whole(0, 3, 2), 0);
    }

    private static void nothing(Sentences s) {
        s.term(4, "An errand to where he is, or without a WAY, is nothing.");
        String town = "places 4;road 0 1 5 1;road 2 3 1 1;short 0 1;";
        LastWalker x = s.told(town + "errand 0 0 0 1;errand 0 2 1 1;errand 0 1 2 1;errand 0 1 3 1;errand 0 3 4 1;errand 0 0 5 1;");
        int[] walked = {0, 0, 5, 5, 0, 0};
        int[] late = {0, 0, 7, 8, 0, 0};
        for (int e = 0; e < 6; e++) {
            s.is("errand " + e, x.all(0, 1 << e, 0, 0), walked[e]);
            s.is("errand " + e + " comes", x.whole(0, 1 << e, 1), late[e]);
        }
        s.is("there once, and back", x.all(0, 63, 0, 0), 10);
        s.is("needless", x.all(0, 63, 0, 3), 0);
        s.is("it keeps him nowhere", x.whole(0, 63, 1), 12);
        s.is("road 0 twice", x.visits(0, 63, 0, false), 2);
        s.is("road 1 is idle", x.whole(0, 63, 0), 2);
        s.is("nobody waits for nothing", x.whole(0, 0b11111, 2), 0);
        s.is("no roads at all", s.told("short 0 1;errand 0 1 0 1;").all(0, 1, 0, 0), 0);
    }

    private static void sums(Sentences s) {
        s.term(4, "WALKED, PAID, GOT: of one, or all together.");
        LastWalker x = s.told(LINE);
        int[][] due = {{15, 10, 15, 40}, {3, 4, 7, 14}, {7, 4, 3, 14}};
        for (int w = 0; w < 3; w++) {
            for (int p = 0; p < 3; p++) s.is("what " + w + " of " + p, x.all(0, 7, p, w), due[w][p]);
            s.is("what " + w + " together", x.all(0, 7, NONE, w), due[w][3]);
        }
        s.is("one pays without going? no", x.all(0, 4, 0, 1), 0);
        s.is("2 gets by 0's errand alone", x.all(0, 1, 2, 2), 3);
        s.is("nobody's gets nothing", x.all(0, 2, NONE, 2), 0);
        LastWalker full = s.told(FULL);
        s.is("twelve of eight", full.all(0, 4095, NONE, 0), 36);
        s.is("eleven pay", full.all(0, 4095, NONE, 1), 77);
        s.is("7 gets", full.all(0, 4095, 7, 2), 7);
    }

    private static void needless(Sentences s) {
        s.term(4, "NEEDLESS: WALKED less the fewest MINUTES from each beginning to its PLACE.");
        LastWalker x = s.told(TOLL + "errand 0 1 0 1;errand 0 0 50 1;errand 1 1 99 1;");
        s.is("12 for 9", x.all(0, 1, 0, 3), 3);
        s.is("and back, from there", x.all(0, 3, 0, 3), 6);
        s.is("back alone is nothing", x.all(0, 2, 0, 3), 0);
        s.is("of 1", x.all(0, 7, 1, 3), 0);
        s.is("of all", x.all(0, 7, NONE, 3), 6);
        // From 1 to 2 the fewest are 4, from home they would be 14.
        LastWalker y = s.told("places 3;road 0 1 10 0;road 1 2 4 50;road 1 2 6 0;cheap 0 1;short 0 0;has 1 1;errand 0 1 0 1;errand 0 2 30 1;");
        s.is("from where it begins", y.all(0, 3, 0, 3), 2);
    }

    private static void net(Sentences s) {
        s.term(4, "NET: of one WALKED * CARE and PAID less GOT.");
        LastWalker x = s.told(LINE);
        int[] due = {15 + 3 - 7, 20 + 4 - 4, 0 + 7 - 3};
        for (int p = 0; p < 3; p++) s.is("net of " + p, x.all(0, 7, p, 4), due[p]);
        s.is("below 0", x.all(0, 1, 2, 4), -3);
        s.is("all together", x.all(0, 7, NONE, 4), 35);
        s.is("care 9", s.told("places 2;road 0 1 30 0;short 0 9;errand 0 1 0 1;").all(0, 1, 0, 4), 270);
    }

    private static void visitsAndIdle(Sentences s) {
        s.term(5, "VISITS of a ROAD: how often it is walked; EARNS: what is paid for it; IDLE: ROADS (bits) that nobody walks.");
        LastWalker x = s.told(LINE + "road 0 2 30 1;");
        int[] visits = {3, 2, 0};
        int[] earns = {8, 6, 0};
        for (int r = 0; r < 3; r++) {
            s.is("visits " + r, x.visits(0, 7, r, false), visits[r]);
            s.is("earns " + r, x.visits(0, 7, r, true), earns[r]);
            s.is("nobody visits " + r, x.visits(0, 0, r, false), 0);
            s.is("and it earns nothing", x.visits(0, 0, r, true), 0);
        }
        s.is("idle", x.whole(0, 7, 0), 4);
        s.is("idle by errand 1", x.whole(0, 2, 0), 6);
        s.is("all are idle", x.whole(0, 0, 0), 7);
        s.is("no roads", s.told("").whole(0, 0, 0), 0);
        s.is("14 roads", s.told("road 0 1 1 1;".repeat(14)).whole(0, 0, 0), 16383);
        s.is("none is idle", s.told(LINE).whole(0, 7, 0), 0);
    }

    private static void lateAndWaits(Sentences s) {
        s.term(5, "LATE: the MINUTE when the last one comes (0, if none was gone).");
        LastWalker x = s.told(LINE);
        s.is("none", x.whole(0, 0, 1), 0);
        s.is("0 at 15", x.whole(0, 1, 1), 15);
        s.is("2 at 105", x.whole(0, 7, 1), 105);
        // The first to go comes last.
        LastWalker y = s.told("places 3;road 0 1 30 4;road 0 2 1 5;short 0 1;short 0 1;errand 0 1 0 1;errand 1 2 1 1;");
        s.is("not the last errand", y.whole(0, 3, 1), 30);
        s.is("none was gone", s.told("short 0 1;errand 0 1 200 1;errand 0 0 300 1;").whole(0, 3, 1), 0);
        s.is("behind 359", s.told("places 2;road 0 1 30 0;short 0 1;errand 0 1 359 1;").whole(0, 1, 1), 389);

        s.term(5, "WAITS: MINUTES from ERRANDS' MINUTES to when they were begun, together.");
        s.is("nobody waits", x.whole(0, 7, 2), 0);
        String town = "places 2;road 0 1 20 4;short 0 1;short 0 1;errand 0 1 0 1;errand 0 0 ";
        int[] waits = {20, 1, 0, 0};
        int[] minutes = {0, 19, 20, 21};
        for (int i = 0; i < 4; i++) s.is("at " + minutes[i], s.told(town + minutes[i] + " 1;").whole(0, 3, 2), waits[i]);
        // 20 less 5, 40 less 6, 21 less 7.
        s.is("together", s.told(town + "5 1;errand 0 1 6 1;errand 1 1 1 1;errand 1 0 7 1;").whole(0, 31, 2), 15 + 34 + 14);
        // He comes at 20, where the errand of 5 leads: it is nothing, and not begun.
        s.is("nothing is not begun", s.told("places 2;road 0 1 20 4;short 0 1;errand 0 1 0 1;errand 0 1 5 1;").whole(0, 3, 2), 0);
        s.is("without a way", s.told("places 3;road 0 1 20 4;short 0 1;errand 0 1 0 1;errand 0 2 5 1;").whole(0, 3, 2), 0);
    }

    private static void stillMovedWithout(Sentences s) {
        LastWalker x = s.told(LINE);
        s.term(5, "STILL: NET of one, if none of his was gone.");
        s.is("0: 2 pays 1", x.still(0, 7, 0), 0);
        s.is("1", x.still(0, 7, 1), 0);
        s.is("2: 0 pays 3", x.still(0, 7, 2), -3);
        s.is("2 of none", x.still(0, 0, 2), 0);
        LastWalker full = s.told(FULL);
        s.is("7 of 8", full.still(0, 4095, 7), 0);
        s.is("6: 7 pays", full.still(0, 4095, 6), 0);
        s.is("all of his", s.told(LINE + "errand 2 1 100 1;").still(0, 15, 2), -3);
        s.is("as if he was not asked", x.still(0, 6, 0), x.all(0, 6, 0, 4));

        s.term(5, "MOVED of an ERRAND: NET of whose it is, if it was at another MINUTE.");
        s.is("where it is", x.moved(0, 7, 0, 0), 11);
        s.is("60: still ahead by number", x.moved(0, 7, 0, 60), 11);
        // 1 has road 0 then: 0 pays 4 and 3, and gets 7 of 2.
        s.is("61: behind errand 1", x.moved(0, 7, 0, 61), 15);
        s.is("90: ahead of errand 2 by number", x.moved(0, 7, 0, 90), 15);
        s.is("91: behind all", x.moved(0, 7, 0, 91), 22);
        s.is("359", x.moved(0, 7, 0, 359), 22);
        // Of one minute errand 0 is the first: errand 1 at 0 comes behind it.
        s.is("errand 1 to 0", x.moved(0, 7, 1, 0), 20);
        // 2 pays 7 to 0, and gets 3 of 0, who is ahead, and 4 of 1.
        s.is("errand 2 to 0", x.moved(0, 7, 2, 0), 0);
        s.is("nothing has changed", x.errand(0, 0, 2), 0);

        s.term(5, "WITHOUT one: WALKED of all others, if none of his was gone, less WALKED of all others as it is.");
        LastWalker y = s.told("road 0 1 12 0;road 0 1 9 50;short 0 0;cheap 0 1;errand 0 1 0 1;errand 1 1 1 1;");
        s.is("without 0 the other walks 9, not 12", y.without(0, 3, 0), -3);
        s.is("without 1 nobody walks otherwise", y.without(0, 3, 1), 0);
        s.is("his errand is none of them", y.without(0, 2, 0), 0);
        // By first 0 goes 12 for what road 0 will bring; 1 would, if 0 did not.
        LastWalker z = s.told("first;road 0 1 12 50;road 0 1 9 0;own 0 1;own 0 1;busy 0 1 100;errand 0 1 0 1;errand 1 1 1 1;");
        s.is("without 0 the other walks 12, not 9", z.without(0, 3, 0), 3);
        s.is("without 1", z.without(0, 3, 1), 0);
    }

    // ------------------------------------------------------------- promises

    private static void all(Sentences s) {
        LastWalker x = s.told(LINE);
        s.promise(20, "ALL of some ERRANDS (bits), of one, or (person NONE) of all, what 0: WALKED, 1: PAID, 2: GOT, 3: NEEDLESS, 4: NET.");
        int[] due = {40, 14, 14, 0, 35};
        int[] of2 = {15, 7, 3, 0, 4};
        for (int w = 0; w < 5; w++) {
            s.is("of all, what " + w, x.all(0, 7, NONE, w), due[w]);
            s.is("of 2, what " + w, x.all(0, 7, 2, w), of2[w]);
            s.is("of no errands, what " + w, x.all(0, 0, NONE, w), 0);
        }
        s.is("of nobody", s.told("").all(0, 0, NONE, 4), 0);
        s.promise(20, "-100000: there is none such (of any; bits of ERRANDS that there are), or for another what.");
        for (int town : new int[] {1, -1, FAR[0], FAR[1]}) s.is("town " + town, x.all(town, 0, NONE, 0), NO_SUM);
        for (int bits : NO_BITS) s.is("errands " + bits, x.all(0, bits, NONE, 0), NO_SUM);
        for (int one : new int[] {3, 7, 8, -2, FAR[0], FAR[1]}) s.is("one " + one, x.all(0, 7, one, 0), NO_SUM);
        for (int what : new int[] {5, 10, -1, FAR[0], FAR[1]}) {
            s.is("what " + what, x.all(0, 7, NONE, what), NO_SUM);
            s.is("of one, what " + what, x.all(0, 7, 0, what), NO_SUM);
        }
        LastWalker full = s.told("own 0 1;" + "errand 0 1 1 1;".repeat(12));
        s.is("4095", full.all(0, 4095, NONE, 0), 0);
        s.is("4096", full.all(0, 4096, NONE, 0), NO_SUM);
        s.is("1 of no errands", s.told("own 0 1;").all(0, 1, NONE, 0), NO_SUM);
    }

    private static void night(Sentences s) {
        LastWalker x = s.told(LINE);
        s.promise(21, "Whose a ROAD is behind them (NONE), or (who NONE is nobody) how many are one's: road NONE, who 0 .. 7 or NONE.");
        int[][] owners = {{NONE, 2}, {0, 0}, {1, 2}, {1, 0}, {2, 2}, {2, 2}, {2, 2}, {2, 2}};
        for (int bits = 0; bits < 8; bits++) {
            int nobodys = 0;
            for (int r = 0; r < 2; r++) {
                s.is(bits + " road " + r, x.night(0, bits, r, 0), owners[bits][r]);
                nobodys += owners[bits][r] == NONE ? 1 : 0;
            }
            s.is(bits + " nobody's", x.night(0, bits, NONE, NONE), nobodys);
            for (int who = 0; who < 8; who++) {
                int many = (owners[bits][0] == who ? 1 : 0) + (owners[bits][1] == who ? 1 : 0);
                s.is(bits + " of " + who, x.night(0, bits, NONE, who), many);
            }
        }
        s.is("by none nobody's", s.told(LINE + "none;").night(0, 7, NONE, NONE), 2);
        s.is("no roads", s.told("").night(0, 0, NONE, NONE), 0);
        s.promise(21, "-2: there is none such (of any).");
        for (int town : new int[] {1, -1, FAR[0], FAR[1]}) s.is("town " + town, x.night(town, 0, 0, 0), -2);
        for (int bits : NO_BITS) {
            s.is("errands " + bits, x.night(0, bits, 0, 0), -2);
            s.is("errands " + bits, x.night(0, bits, NONE, 0), -2);
        }
        for (int road : new int[] {2, 13, 14, -2, FAR[0], FAR[1]}) s.is("road " + road, x.night(0, 7, road, 0), -2);
        for (int who : new int[] {8, 9, -2, FAR[0], FAR[1]}) s.is("who " + who, x.night(0, 7, NONE, who), -2);
    }

    private static void visits(Sentences s) {
        LastWalker x = s.told(LINE);
        s.promise(33, "VISITS of a ROAD, or (paid) EARNS.");
        s.is("visits", x.visits(0, 7, 0, false), 3);
        s.is("earns", x.visits(0, 7, 0, true), 8);
        s.promise(33, "NONE: there is none such (of any).");
        for (int paid = 0; paid < 2; paid++) {
            for (int town : new int[] {1, -1, FAR[0], FAR[1]}) s.is("town " + town, x.visits(town, 0, 0, paid == 1), NONE);
            for (int bits : NO_BITS) s.is("errands " + bits, x.visits(0, bits, 0, paid == 1), NONE);
            for (int road : new int[] {2, 13, 14, -1, FAR[0], FAR[1]}) s.is("road " + road, x.visits(0, 7, road, paid == 1), NONE);
        }
    }

    private static void whole(Sentences s) {
        LastWalker x = s.told(LINE);
        s.promise(34, "Of them, what 0: IDLE (bits), 1: LATE, 2: WAITS, 3: WHICH.");
        int[] due = {1, 95, 0, 0};
        // By errand 2 alone without road 0's end: 2 to 1.
        LastWalker y = s.told(LINE.replace("errand 2 0", "errand 2 1"));
        for (int w = 0; w < 4; w++) s.is("what " + w, y.whole(0, 4, w), due[w]);
        s.promise(34, "NONE: there is none such (of either), or for another what.");
        for (int w = 0; w < 4; w++) {
            for (int town : new int[] {1, -1, FAR[0], FAR[1]}) s.is("town " + town, x.whole(town, 0, w), NONE);
            for (int bits : NO_BITS) s.is("errands " + bits, x.whole(0, bits, w), NONE);
        }
        for (int what : new int[] {4, 10, -1, FAR[0], FAR[1]}) s.is("what " + what, x.whole(0, 7, what), NONE);
    }

    private static void still(Sentences s) {
        LastWalker x = s.told(LINE);
        s.promise(35, "STILL.");
        s.is("of 2", x.still(0, 7, 2), -3);
        s.promise(35, "-100000: there is none such (of any).");
        for (int town : new int[] {1, -1, FAR[0], FAR[1]}) s.is("town " + town, x.still(town, 0, 0), NO_SUM);
        for (int bits : NO_BITS) s.is("errands " + bits, x.still(0, bits, 0), NO_SUM);
        for (int one : new int[] {3, 7, 8, -1, FAR[0], FAR[1]}) s.is("one " + one, x.still(0, 7, one), NO_SUM);
    }

    private static void moved(Sentences s) {
        LastWalker x = s.told(LINE);
        s.promise(37, "MOVED of one of them to a MINUTE, 0 .. 359.");
        s.is("to 0", x.moved(0, 7, 0, 0), 11);
        s.is("to 359", x.moved(0, 7, 0, 359), 22);
        s.promise(37, "-100000: it is none of them, there is none such (of any), or another MINUTE.");
        s.is("none of them", x.moved(0, 6, 0, 5), NO_SUM);
        s.is("none of them", x.moved(0, 3, 2, 5), NO_SUM);
        s.is("none of none", x.moved(0, 0, 0, 5), NO_SUM);
        for (int town : new int[] {1, -1, FAR[0], FAR[1]}) s.is("town " + town, x.moved(town, 7, 0, 5), NO_SUM);
        for (int bits : NO_BITS) s.is("errands " + bits, x.moved(0, bits, 0, 5), NO_SUM);
        // 32 and 33 would be bits 0 and 1, if shifts were not looked at.
        for (int errand : new int[] {3, 11, 12, 32, 33, -1, -32, FAR[0], FAR[1]}) s.is("errand " + errand, x.moved(0, 7, errand, 5), NO_SUM);
        for (int minute : new int[] {360, 999, -1, FAR[0], FAR[1]}) s.is("minute " + minute, x.moved(0, 7, 0, minute), NO_SUM);
    }

    private static void without(Sentences s) {
        LastWalker x = s.told(LINE);
        s.promise(38, "WITHOUT.");
        s.is("of 0", x.without(0, 7, 0), 0);
        s.promise(38, "-100000: there is none such (of any).");
        for (int town : new int[] {1, -1, FAR[0], FAR[1]}) s.is("town " + town, x.without(town, 0, 0), NO_SUM);
        for (int bits : NO_BITS) s.is("errands " + bits, x.without(0, bits, 0), NO_SUM);
        for (int one : new int[] {3, 7, 8, -1, FAR[0], FAR[1]}) s.is("one " + one, x.without(0, 7, one), NO_SUM);
    }
}
