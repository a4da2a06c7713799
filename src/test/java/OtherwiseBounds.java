/** Promises 22 to 27 and 36 and what terms 4 and 5 say of how it could be otherwise, sentence by sentence. */
final class OtherwiseBounds {
    private static final int NONE = LastWalker.NONE;
    private static final int NO_SUM = -100000;
    private static final int[] FAR = {Integer.MIN_VALUE, Integer.MAX_VALUE};
    private static final String LINE = ErrandBounds.LINE;
    private static final String TOLL = ErrandBounds.TOLL;
    /** 2 goes short and pays 7, though he does not care for minutes: cheap and own he would go by road 2. */
    private static final String KINDS = "places 3;road 0 1 10 4;road 1 2 5 3;road 0 2 20 2;own 0 1;cheap 0 2;short 2 0;"
            + "errand 0 2 0 100;errand 1 2 60 100;errand 2 0 90 100;busy 0 1 50;has 2 1;";

    /** As own 0 goes by road 0, which 1 walks later; then 1 would sooner be cheap, then 0 short again. */
    private static final String TURNS = "places 3;road 0 1 10 50;road 1 2 1 0;road 0 2 10 0;short 0 1;short 0 1;"
            + "errand 0 2 0 100;errand 1 1 60 100;busy 0 1 100;";

    private static final String TWENTY = "places 3;road 0 2 8 38;road 2 0 8 8;road 1 2 17 85;road 1 0 8 2;road 0 2 7 8;own 0 2;own 2 1;"
            + "short 2 0;own 2 0;cheap 1 2;short 2 1;errand 2 0 82 1;errand 1 1 94 1;errand 0 2 109 1;errand 4 2 126 1;"
            + "errand 3 1 156 1;errand 5 1 143 1;has 2 0;has 5 3;has 3 4;busy 0 3 98;busy 3 3 62;";
    /** From 0 to 2 by one road of 30, or over two of 9 that each ask for 50, which are 1's. */
    private static final String BOTH = "places 3;road 0 1 9 50;road 1 2 9 50;road 0 2 30 0;cheap 0 1;short 0 0;has 1 0;has 1 1;errand 0 2 0 1;";

    static void test(Sentences s) {
        otherIs(s);
        turnedIs(s);
        regretIs(s);
        soonerIs(s);
        restsIs(s);
        freeIs(s);
        houseIs(s);
        giftIs(s);
        whichIs(s);
        other(s);
        turned(s);
        regret(s);
        sooner(s);
        rests(s);
        free(s);
        house(s);
    }

    // ---------------------------------------------------------- terms 4 and 5

    private static void otherIs(Sentences s) {
        s.term(4, "OTHER: these by another LAW (noon: the TOWN's MINUTE).");
        // last: 3, 4, 7; first: 3, 4 and 4; noon 0: 3 alone; none: nothing.
        int[] paid = {14, 11, 3, 0};
        String[] laws = {"last;", "first;", "noon 0;", "none;"};
        for (String told : laws) {
            LastWalker x = s.told(LINE + told);
            for (int law = 0; law < 4; law++) s.is(told + " by " + law, x.other(0, 7, law, 1), paid[law]);
            s.is(told + " it is as it was", x.all(0, 7, NONE, 1), paid[x.town(0, 4)]);
        }
        // Road 1 is walked at 10.
        s.is("noon 10", s.told(LINE + "noon 10;last;").other(0, 7, 2, 1), 11);
        s.is("noon 11", s.told(LINE + "noon 11;last;").other(0, 7, 2, 1), 14);
        // By none roads are nobody's at first, by others they are whose HAS tells.
        s.is("none: road 1 is nobody's", s.told(LINE).other(0, 1, 3, 1), 0);
        s.is("told none: road 1 is 2's", s.told(LINE + "none;").other(0, 1, 0, 1), 3);
        // Worths are by that law too: by first all hours count, and 0 goes far for it.
        String worth = "places 2;road 0 1 12 4;road 0 1 9 0;own 0 1;errand 0 1 0 1;busy 0 1 60;busy 0 2 60;";
        s.is("last: 4 * 0.84 is above 3", s.told(worth).other(0, 1, 0, 0), 12);
        s.is("none", s.told(worth).other(0, 1, 3, 0), 9);
        s.is("noon 0", s.told(worth).other(0, 1, 2, 0), 9);
        String less = worth.replace("busy 0 1 60;busy 0 2 60;", "busy 0 1 40;busy 0 2 40;");
        s.is("last: 4 * 0.64 is below 3", s.told(less).other(0, 1, 0, 0), 9);
        s.is("first: 4 * 0.8 is above 3", s.told(less).other(0, 1, 1, 0), 12);
    }

    private static void turnedIs(Sentences s) {
        s.term(4, "TURNED: these, if one was of another KIND.");
        LastWalker x = s.told(KINDS);
        int[][] due = {{11, 11, 11}, {30, 30, 30}, {4, -3, -3}};
        for (int p = 0; p < 3; p++) {
            for (int kind = 0; kind < 3; kind++) s.is(p + " of kind " + kind, x.turned(0, 7, p, kind), due[p][kind]);
        }
        s.is("he is of the kind that he was", x.person(0, 2, 2), 0);
        s.is("and all is as it was", x.all(0, 7, 2, 4), 4);
    }

    private static void regretIs(Sentences s) {
        s.term(4, "REGRET: the KIND by which his NET is least, all others as they are; of several the least.");
        LastWalker x = s.told(KINDS);
        s.is("of three the least, though he is own", x.regret(0, 7, 0), 0);
        s.is("of three the least, though he is cheap", x.regret(0, 7, 1), 0);
        s.is("of cheap and own cheap", x.regret(0, 7, 2), 1);
        // As own he has road 0 for what it will bring, and 1 pays him 50; else he goes 10.
        LastWalker y = s.told(TURNS);
        int[] nets = {10, 10, 11 - 50};
        for (int kind = 0; kind < 3; kind++) s.is("net by kind " + kind, y.turned(0, 3, 0, kind), nets[kind]);
        s.is("the last one", y.regret(0, 3, 0), 2);
        s.is("he alone, nobody pays him: short", y.regret(0, 1, 0), 0);
    }

    private static void soonerIs(Sentences s) {
        s.term(4, "SOONER: all (bits) whose NET would be less by another KIND.");
        LastWalker x = s.told(KINDS);
        s.is("2 alone", x.sooner(0, 7), 4);
        s.is("equal is not less", s.told(KINDS.replace("short 2 0", "cheap 2 0")).sooner(0, 7), 0);
        s.is("own, equal", s.told(KINDS.replace("short 2 0", "own 2 0")).sooner(0, 7), 0);
        s.is("of no errands", x.sooner(0, 0), 0);
        s.is("of those of others", x.sooner(0, 3), 0);
        s.is("nobody", s.told("").sooner(0, 0), 0);
        s.is("by first all pay the first one", s.told(eight() + "first;").sooner(0, 255), 254);
        s.is("by last each is paid, but the last one", s.told(eight()).sooner(0, 255), 128);
        s.is("by none nobody pays", s.told(eight() + "none;").sooner(0, 255), 0);
        s.is("own would be less, cheap would not", s.told(TURNS).sooner(0, 3), 1);
    }

    private static void restsIs(Sentences s) {
        s.term(4, "RESTS: TURNS, at most 20: the least one of SOONER comes to be of his REGRET's KIND; how many until there is none.");
        s.is("one turn", s.told(KINDS).rests(0, 7, false), 1);
        s.is("his kind is cheap then", s.told(KINDS).rests(0, 7, true), 2 + 3 + 9);
        s.is("no turn", s.told(KINDS.replace("short 2 0", "cheap 2 0")).rests(0, 7, false), 0);
        s.is("no turn, kinds as told", s.told(KINDS.replace("short 2 0", "own 2 0")).rests(0, 7, true), 2 + 3 + 18);
        // By first each turns by himself, by last the one ahead of the one who turned is paid no more.
        for (String law : new String[] {"first;", "last;"}) {
            LastWalker x = s.told(eight() + law);
            s.is(law + " seven turns", x.rests(0, 255, false), 7);
            s.is(law + " all cheap but the first", x.rests(0, 255, true), (6561 - 3) / 2);
            s.is(law + " they are as they were", x.person(0, 1, 2), 0);
        }
        // Twenty turns as the oracle has them; if 5 was own, one more would be wanted.
        s.is("20 turns", s.told(TWENTY).rests(0, 63, false), 20);
        s.is("kinds behind them", s.told(TWENTY).rests(0, 63, true), 367);
        s.is("21 turns", s.told(TWENTY.replace("short 2 1", "own 2 1")).rests(0, 63, false), NONE);
        s.is("kinds behind the 20th", s.told(TWENTY.replace("short 2 1", "own 2 1")).rests(0, 63, true), 286);
        s.is("0 own, 1 cheap, 0 short", s.told(TURNS).rests(0, 3, false), 3);
        s.is("short and cheap", s.told(TURNS).rests(0, 3, true), 3);
    }

    private static void freeIs(Sentences s) {
        s.term(4, "FREE: the ROAD by which, if its PENNY was 0 and it could be nobody's, WALKED of all is least, below what it is; of several the least.");
        String errand = "errand 0 1 5 1;";
        s.is("12 to 9", s.told(TOLL + errand).free(0, 1), 1);
        s.is("not below", s.told(TOLL.replace("road 0 1 9 50", "road 0 1 12 50") + errand).free(0, 1), NONE);
        s.is("a minute below", s.told(TOLL.replace("road 0 1 9 50", "road 0 1 11 50") + errand).free(0, 1), 1);
        s.is("nobody goes", s.told(TOLL + errand).free(0, 0), NONE);
        s.is("free already", s.told(TOLL + "none;" + errand).free(0, 1), NONE);
        s.is("no roads", s.told("").free(0, 0), NONE);
        s.is("of two the least", s.told(TOLL + "road 0 1 9 60;has 1 2;" + errand).free(0, 1), 1);
        s.is("of two the one by which it is least", s.told(TOLL + "road 0 1 8 60;has 1 2;" + errand).free(0, 1), 2);
        s.is("the first", s.told("road 0 1 9 50;road 0 1 12 0;cheap 0 1;short 0 0;has 1 0;" + errand).free(0, 1), 0);
        // What lures one far is worth nothing any more.
        String lure = "road 0 1 9 0;road 0 1 12 50;own 0 1;busy 1 1 100;";
        s.is("it lured him", s.told(lure + errand).all(0, 1, 0, 0), 12);
        s.is("it does no more", s.told(lure + errand).free(0, 1), 1);
        s.is("one road alone, not both", s.told(BOTH).free(0, 1), NONE);
        s.is("the one that is wanted", s.told(BOTH + "has 0 1;").free(0, 1), 0);
        s.is("14 roads, 9 places", s.told("places 9;" + "road 7 8 1 1;".repeat(14) + "own 7 1;errand 0 8 0 1;").free(0, 1), NONE);
        LastWalker x = s.told(TOLL + errand);
        x.free(0, 1);
        s.is("its penny is as it was", x.road(0, 1, 3), 50);
        s.is("and all goes as it went", x.all(0, 1, 0, 0), 12);
    }

    private static void houseIs(Sentences s) {
        s.term(5, "HOUSE of one: the PLACE that as his HOME makes his NET least; of several the least.");
        String town = "places 4;road 0 1 9 0;road 1 2 5 0;road 2 3 5 0;short 0 1;short 0 1;";
        s.is("where his errand is", s.told(town + "errand 0 2 0 1;").house(0, 1, 0, false), 2);
        s.is("where his first one is", s.told(town + "errand 0 1 0 1;errand 0 3 1 1;").house(0, 3, 0, false), 1);
        s.is("who does not care", s.told(town.replace("short 0 1;short", "short 0 0;short") + "errand 0 2 0 1;").house(0, 1, 0, false), 0);
        s.is("of all the least", s.told(town + "errand 0 2 0 1;").house(0, 0, 0, false), 0);
        s.is("another one's errands are one to him", s.told(town + "errand 1 2 0 1;").house(0, 1, 0, false), 0);
        s.is("the last", s.told(town + "errand 0 3 0 1;").house(0, 1, 0, false), 3);
        // From where there is no way the errand is nothing, as it is from its place.
        s.is("of 0 and 2", s.told("places 3;road 1 2 5 0;short 1 1;errand 0 2 0 1;").house(0, 1, 0, false), 0);
        s.is("of 2 and 3", s.told("places 4;road 0 1 5 0;road 1 2 5 0;short 0 1;errand 0 2 0 1;").house(0, 1, 0, false), 2);
        LastWalker x = s.told(town + "errand 0 2 0 1;");
        x.house(0, 1, 0, false);
        s.is("his home is as it was", x.person(0, 0, 0), 0);
        s.is("and he goes as he went", x.all(0, 1, 0, 0), 14);
    }

    private static void giftIs(Sentences s) {
        s.term(5, "GIFT to one: the ROAD that, if it was his at first, makes his NET least, below what it is; of several the least.");
        String errand = "errand 0 1 5 1;";
        s.is("12 to 9", s.told(TOLL + errand).house(0, 1, 0, true), 1);
        s.is("not below", s.told(TOLL.replace("road 0 1 9 50", "road 0 1 12 50") + errand).house(0, 1, 0, true), NONE);
        s.is("a minute below", s.told(TOLL.replace("road 0 1 9 50", "road 0 1 11 50") + errand).house(0, 1, 0, true), 1);
        s.is("of two the least", s.told(TOLL + "road 0 1 9 60;has 1 2;" + errand).house(0, 1, 0, true), 1);
        s.is("of two the one by which it is least", s.told(TOLL + "road 0 1 8 60;has 1 2;" + errand).house(0, 1, 0, true), 2);
        s.is("nobody goes", s.told(TOLL + errand).house(0, 0, 0, true), NONE);
        s.is("by none", s.told(TOLL + "none;" + errand).house(0, 1, 0, true), NONE);
        s.is("it is his", s.told(TOLL + "has 0 1;" + errand).house(0, 1, 0, true), NONE);
        // It is enough that others pay.
        s.is("what others pay", s.told("places 2;road 0 1 5 3;short 0 1;short 0 1;errand 1 1 0 1;").house(0, 1, 0, true), 0);
        s.is("a penny of 0", s.told("places 2;road 0 1 5 0;short 0 1;short 0 1;errand 1 1 0 1;").house(0, 1, 0, true), NONE);
        s.is("one road alone, not both", s.told(BOTH).house(0, 1, 0, true), NONE);
        s.is("the one that is wanted", s.told(BOTH + "has 0 0;").house(0, 1, 0, true), 1);
        s.is("road 13", s.told("places 9;" + "road 7 8 2 1;".repeat(13) + "road 7 8 1 9;cheap 7 1;own 7 1;has 1 13;errand 0 8 0 1;")
                .house(0, 1, 0, true), 13);
        LastWalker x = s.told(TOLL + errand);
        x.house(0, 1, 0, true);
        s.is("it is whose it was", x.road(0, 1, 4), 1);
        s.is("and he goes as he went", x.all(0, 1, 0, 0), 12);
    }

    private static void whichIs(Sentences s) {
        s.term(5, "WHICH: the LAW, of 0 to 3, by which NEEDLESS is least; of several the least.");
        String two = "road 0 1 12 0;road 0 1 9 50;short 0 0;cheap 0 1;errand 0 1 0 1;errand 1 1 1 1;";
        s.is("none is needless by 2 and 3", s.told(two).whole(0, 3, 3), 2);
        s.is("by 3 alone", s.told(two + "noon 999;").whole(0, 3, 3), 3);
        s.is("by 3 alone, noon at 1", s.told(two + "noon 1;last;").whole(0, 3, 3), 3);
        // 1 has the short road: by first it stays his.
        s.is("by 1 to 3", s.told(two + "has 1 1;").whole(0, 3, 3), 1);
        for (String law : new String[] {"last;", "first;", "noon 5;", "none;"}) {
            s.is("by all", s.told(LINE + law).whole(0, 7, 3), 0);
            s.is("of no errands", s.told(two + law).whole(0, 0, 3), 0);
        }
        LastWalker x = s.told(two);
        x.whole(0, 3, 3);
        s.is("the law is as it was", x.town(0, 4), 0);
    }

    /** Eight one behind the other, each by the road of 9 for 50, though there is one of 12 for nothing. */
    private static String eight() {
        StringBuilder town = new StringBuilder("places 2;road 0 1 12 0;road 0 1 9 50;");
        for (int p = 0; p < 8; p++) town.append("short 0 1;");
        for (int p = 0; p < 8; p++) town.append("errand ").append(p).append(" 1 ").append(p).append(" 1;");
        return town.toString();
    }

    // ------------------------------------------------------------- promises

    private static void other(Sentences s) {
        LastWalker x = s.told(LINE);
        s.promise(22, "OTHER by a LAW, 0 .. 3, what as all() has it, of all.");
        int[][] due = {{40, 14, 14, 0, 35}, {40, 11, 11, 0, 35}, {40, 3, 3, 0, 35}, {40, 0, 0, 0, 35}};
        for (int law = 0; law < 4; law++) {
            for (int w = 0; w < 5; w++) s.is("law " + law + " what " + w, x.other(0, 7, law, w), due[law][w]);
        }
        s.promise(22, "-100000: as all(), or another LAW.");
        for (int town : new int[] {1, -1, FAR[0], FAR[1]}) s.is("town " + town, x.other(town, 0, 0, 0), NO_SUM);
        for (int bits : ErrandBounds.NO_BITS) s.is("errands " + bits, x.other(0, bits, 0, 0), NO_SUM);
        for (int law : new int[] {4, -1, FAR[0], FAR[1]}) s.is("law " + law, x.other(0, 7, law, 0), NO_SUM);
        for (int what : new int[] {5, 10, -1, FAR[0], FAR[1]}) s.is("what " + what, x.other(0, 7, 0, what), NO_SUM);
    }

    private static void turned(Sentences s) {
        LastWalker x = s.told(KINDS);
        s.promise(23, "TURNED: NET of one of KIND, 0 .. 2.");
        s.is("as he is", x.turned(0, 7, 2, 0), 4);
        s.is("own", x.turned(0, 7, 2, 2), -3);
        s.promise(23, "-100000: as all(), or another KIND.");
        for (int town : new int[] {1, -1, FAR[0], FAR[1]}) s.is("town " + town, x.turned(town, 0, 0, 0), NO_SUM);
        for (int bits : ErrandBounds.NO_BITS) s.is("errands " + bits, x.turned(0, bits, 0, 0), NO_SUM);
        for (int one : new int[] {3, 7, 8, -1, -2, FAR[0], FAR[1]}) s.is("one " + one, x.turned(0, 7, one, 0), NO_SUM);
        for (int kind : new int[] {3, -1, FAR[0], FAR[1]}) s.is("kind " + kind, x.turned(0, 7, 0, kind), NO_SUM);
    }

    private static void regret(Sentences s) {
        LastWalker x = s.told(KINDS);
        s.promise(24, "REGRET.");
        s.is("of 2", x.regret(0, 7, 2), 1);
        s.is("of 2, who does not go", x.regret(0, 3, 2), 0);
        s.promise(24, "NONE: there is none such (of any).");
        for (int town : new int[] {1, -1, FAR[0], FAR[1]}) s.is("town " + town, x.regret(town, 0, 0), NONE);
        for (int bits : ErrandBounds.NO_BITS) s.is("errands " + bits, x.regret(0, bits, 0), NONE);
        for (int one : new int[] {3, 7, 8, -1, FAR[0], FAR[1]}) s.is("one " + one, x.regret(0, 7, one), NONE);
    }

    private static void sooner(Sentences s) {
        LastWalker x = s.told(KINDS);
        s.promise(25, "SOONER (bits).");
        s.is("2", x.sooner(0, 7), 4);
        s.is("2 alone", x.sooner(0, 4), 0);
        s.promise(25, "NONE: there is none such (of either).");
        for (int town : new int[] {1, -1, FAR[0], FAR[1]}) s.is("town " + town, x.sooner(town, 0), NONE);
        for (int bits : ErrandBounds.NO_BITS) s.is("errands " + bits, x.sooner(0, bits), NONE);
    }

    private static void rests(Sentences s) {
        LastWalker x = s.told(KINDS);
        s.promise(26, "RESTS, or (kinds) what KINDS they are of then, as figures by three, the first one lowest.");
        s.is("rests", x.rests(0, 7, false), 1);
        s.is("own, cheap, cheap", x.rests(0, 7, true), 2 + 3 * 1 + 9 * 1);
        s.is("nobody", s.told("").rests(0, 0, false), 0);
        s.is("no kinds", s.told("").rests(0, 0, true), 0);
        s.is("eight of own", s.told("own 0 1;".repeat(8)).rests(0, 0, true), 6560);
        s.is("the first one lowest", s.told("own 0 1;" + "short 0 1;".repeat(7)).rests(0, 0, true), 2);
        s.is("the last one highest", s.told("short 0 1;".repeat(7) + "own 0 1;").rests(0, 0, true), 2 * 2187);
        s.promise(26, "NONE: 20 are not enough (not with kinds), or there is none such (of either).");
        LastWalker y = s.told("places 2;road 0 1 3 6;road 0 1 3 4;own1 2;short0 5;errand 1 1 0 88;errand 1 1 4 35;errand 0 0 7 86;"
                + "errand 1 0 16 5;has 1 0;noon 52;busy 0 3 85;busy 0 5 42;busy 1 2 4;busy 1 5 29;");
        s.is("20 are not enough", y.rests(0, 15, false), NONE);
        s.is("kinds behind the 20th", y.rests(0, 15, true), 6);
        for (int k = 0; k < 2; k++) {
            for (int town : new int[] {1, -1, FAR[0], FAR[1]}) s.is("town " + town, x.rests(town, 0, k == 1), NONE);
            for (int bits : ErrandBounds.NO_BITS) s.is("errands " + bits, x.rests(0, bits, k == 1), NONE);
        }
    }

    private static void free(Sentences s) {
        LastWalker x = s.told(TOLL + "errand 0 1 5 1;errand 1 1 5 1;errand 1 0 5 1;");
        s.promise(27, "FREE.");
        s.is("road 1", x.free(0, 1), 1);
        s.promise(27, "NONE: none, or there is none such (of either).");
        s.is("none", x.free(0, 2), NONE);
        for (int town : new int[] {1, -1, FAR[0], FAR[1]}) s.is("town " + town, x.free(town, 1), NONE);
        // Errand 0 with bits that are none: road 1 would be the answer.
        for (int bits : ErrandBounds.NO_BITS) s.is("errands " + bits, x.free(0, bits), NONE);
    }

    private static void house(Sentences s) {
        LastWalker x = s.told(TOLL + "errand 0 1 5 1;errand 1 1 5 1;errand 1 0 5 1;");
        s.promise(36, "HOUSE, or (gift) GIFT.");
        s.is("house", x.house(0, 1, 0, false), 1);
        s.is("gift", x.house(0, 1, 0, true), 1);
        s.promise(36, "NONE: none (of GIFT), or there is none such (of any).");
        s.is("no gift", x.house(0, 0, 0, true), NONE);
        s.is("a house there is", x.house(0, 0, 0, false), 0);
        for (int g = 0; g < 2; g++) {
            for (int town : new int[] {1, -1, FAR[0], FAR[1]}) s.is("town " + town, x.house(town, 1, 0, g == 1), NONE);
            for (int bits : ErrandBounds.NO_BITS) s.is("errands " + bits, x.house(0, bits, 0, g == 1), NONE);
            for (int one : new int[] {2, 7, 8, -1, FAR[0], FAR[1]}) s.is("one " + one, x.house(0, 1, one, g == 1), NONE);
        }
    }
}
