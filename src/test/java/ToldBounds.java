/** Promises 6 to 10 and 40 to 42, sentence by sentence. */
final class ToldBounds {
    private static final int NONE = LastWalker.NONE;
    private static final int[] FAR = {Integer.MIN_VALUE, Integer.MAX_VALUE};
    private static final String SMALL = "places 2;road 0 1 7 3;road 1 0 8 4;own 1 5;cheap 0 6;errand 1 1 90 50;errand 0 0 0 100;has 1 1;busy 1 5 9;";

    static void test(Sentences s) {
        town(s);
        road(s);
        person(s);
        errand(s);
        move(s);
        count(s);
        image(s);
        again(s);
    }

    private static void town(Sentences s) {
        LastWalker x = s.told(SMALL);
        Due.town(x, "noon 55;first;");
        s.promise(6, "what 0: PLACES, 1: ROADS, 2: PEOPLE, 3: ERRANDS, 4: LAW, 5: noon's MINUTE (0 if none was told)");
        int[] first = {2, 2, 2, 2, 0, 0};
        int[] second = {4, 0, 0, 0, 1, 55};
        for (int w = 0; w < 6; w++) {
            s.is("town 0 what " + w, x.town(0, w), first[w]);
            s.is("town 1 what " + w, x.town(1, w), second[w]);
        }
        s.is("noon 0 was told", s.told("noon 7;noon 0;").town(0, 5), 0);
        s.promise(6, "NONE: there is none such, or for another what.");
        for (int town : new int[] {2, -1, -2, FAR[0], FAR[1]}) s.is("town " + town, x.town(town, 0), NONE);
        for (int what : new int[] {6, 10, -1, FAR[0], FAR[1]}) s.is("what " + what, x.town(0, what), NONE);
        s.is("the second of one", s.told("").town(1, 0), NONE);
    }

    private static void road(Sentences s) {
        LastWalker x = s.told(SMALL);
        s.promise(7, "Of a ROAD, what 0, 1: its PLACES as told, 2: MINUTES, 3: PENNY, 4: whose it is at first (NONE), 10 + h: CHANCE of HOUR h.");
        int[][] roads = {{0, 1, 7, 3, NONE}, {1, 0, 8, 4, 1}};
        for (int r = 0; r < 2; r++) {
            for (int w = 0; w < 5; w++) s.is("road " + r + " what " + w, x.road(0, r, w), roads[r][w]);
            for (int h = 0; h < 6; h++) s.is("road " + r + " hour " + h, x.road(0, r, 10 + h), r == 1 && h == 5 ? 9 : 0);
        }
        s.promise(7, "-2: there is none such (of either), or for another what.");
        for (int town : new int[] {1, 2, -1, FAR[0], FAR[1]}) s.is("town " + town, x.road(town, 0, 0), -2);
        for (int road : new int[] {2, 13, 14, -1, FAR[0], FAR[1]}) s.is("road " + road, x.road(0, road, 0), -2);
        for (int what : new int[] {5, 9, 16, -1, FAR[0], FAR[1]}) s.is("what " + what, x.road(0, 0, what), -2);
        s.is("none in an empty town", s.told("").road(0, 0, 4), -2);
    }

    private static void person(Sentences s) {
        LastWalker x = s.told(SMALL);
        s.promise(8, "Of one, what 0: HOME, 1: CARE, 2: KIND.");
        int[][] people = {{1, 5, 2}, {0, 6, 1}};
        for (int p = 0; p < 2; p++) {
            for (int w = 0; w < 3; w++) s.is(p + " what " + w, x.person(0, p, w), people[p][w]);
        }
        s.promise(8, "NONE: there is none such (of either), or for another what.");
        for (int town : new int[] {1, 2, -1, FAR[0], FAR[1]}) s.is("town " + town, x.person(town, 0, 0), NONE);
        for (int one : new int[] {2, 7, 8, -1, FAR[0], FAR[1]}) s.is("one " + one, x.person(0, one, 0), NONE);
        for (int what : new int[] {3, 10, -1, FAR[0], FAR[1]}) s.is("what " + what, x.person(0, 0, what), NONE);
        s.is("nobody in an empty town", s.told("").person(0, 0, 0), NONE);
    }

    private static void errand(Sentences s) {
        LastWalker x = s.told(SMALL);
        s.promise(9, "Of an ERRAND, what 0: whose, 1: PLACE, 2: MINUTE, 3: LIKELY.");
        int[][] errands = {{1, 1, 90, 50}, {0, 0, 0, 100}};
        for (int e = 0; e < 2; e++) {
            for (int w = 0; w < 4; w++) s.is("errand " + e + " what " + w, x.errand(0, e, w), errands[e][w]);
        }
        s.promise(9, "NONE: there is none such (of either), or for another what.");
        for (int town : new int[] {1, 2, -1, FAR[0], FAR[1]}) s.is("town " + town, x.errand(town, 0, 0), NONE);
        for (int errand : new int[] {2, 11, 12, -1, FAR[0], FAR[1]}) s.is("errand " + errand, x.errand(0, errand, 0), NONE);
        for (int what : new int[] {4, 10, -1, FAR[0], FAR[1]}) s.is("what " + what, x.errand(0, 0, what), NONE);
        s.is("none in an empty town", s.told("").errand(0, 0, 0), NONE);
    }

    private static void move(Sentences s) {
        LastWalker x = s.told("", "go 7 13;wait 999;", "");
        s.promise(10, "Of a DAY how many MOVES (move NONE, what 0); of a MOVE, what 0: 0 go, 1 wait, 1: who (NONE of wait), 2: the ROAD, or minutes.");
        s.is("moves", x.move(0, NONE, 0), 2);
        s.is("no moves", x.move(1, NONE, 0), 0);
        int[][] moves = {{0, 7, 13}, {1, NONE, 999}};
        for (int m = 0; m < 2; m++) {
            for (int w = 0; w < 3; w++) s.is("move " + m + " what " + w, x.move(0, m, w), moves[m][w]);
        }
        s.promise(10, "-2: there is none such (of any), or for another what.");
        for (int day : new int[] {2, 3, -1, FAR[0], FAR[1]}) {
            s.is("day " + day, x.move(day, 0, 0), -2);
            s.is("moves of day " + day, x.move(day, NONE, 0), -2);
        }
        for (int move : new int[] {2, 39, 40, -2, FAR[0], FAR[1]}) s.is("move " + move, x.move(0, move, 0), -2);
        for (int what : new int[] {3, 10, -1, FAR[0], FAR[1]}) s.is("what " + what, x.move(0, 0, what), -2);
        for (int what : new int[] {1, 2, 3, -1, FAR[0], FAR[1]}) s.is("of all, what " + what, x.move(0, NONE, what), -2);
        s.is("no move of an empty day", x.move(1, 0, 0), -2);
    }

    private static void count(Sentences s) {
        s.promise(40, "How many: 0 TOWNS, 1 DAYS.");
        LastWalker x = new LastWalker();
        s.is("towns", x.count(0), 0);
        s.is("days", x.count(1), 0);
        for (int i = 1; i <= 2; i++) {
            Due.town(x, "");
            s.is("towns", x.count(0), i);
        }
        for (int i = 1; i <= 3; i++) {
            Due.day(x, "");
            s.is("days", x.count(1), i);
        }
        s.is("towns", x.count(0), 2);
        s.promise(40, "-2 for another what.");
        for (int what : new int[] {2, 3, -1, -2, FAR[0], FAR[1]}) s.is("count(" + what + ")", x.count(what), -2);
    }

    private static void image(Sentences s) {
        s.promise(41, "Image k (0 .. 2) is all that is told (the tape, the FAULT, too), as it is now: true");
        LastWalker x = s.told("places 5;noon 9;road 0 1 7 3;own 2 6;errand 0 4 8 9;has 0 0;busy 0 3 11;", "go 0 0;wait 5;");
        Due.take(x, "   lost;", 0, 0);
        Due.tape(x, "places 6;");
        for (int k = 0; k < 3; k++) s.is("image(" + k + ")", x.image(k), true);
        Due.tape(x, "");
        Due.take(x, "places 9;first;road 2 3 1 1;road 4 5 1 1;short 8 1;cheap 7 2;", 0, 0);
        Due.take(x, "", 0, NONE);
        Due.take(x, "wait 1;wait 2;wait 3;", 1, 0);
        Due.take(x, "", 1, NONE);
        s.is("again", x.again(1), true);
        int[] town = {5, 1, 1, 1, 2, 9};
        for (int w = 0; w < 6; w++) s.is("town " + w, x.town(0, w), town[w]);
        int[] road = {0, 1, 7, 3, 0};
        for (int w = 0; w < 5; w++) s.is("road " + w, x.road(0, 0, w), road[w]);
        s.is("busy", x.road(0, 0, 13), 11);
        int[] person = {2, 6, 2};
        for (int w = 0; w < 3; w++) s.is("person " + w, x.person(0, 0, w), person[w]);
        int[] errand = {0, 4, 8, 9};
        for (int w = 0; w < 4; w++) s.is("errand " + w, x.errand(0, 0, w), errand[w]);
        s.is("towns", x.count(0), 1);
        s.is("days", x.count(1), 1);
        s.is("moves", x.move(0, NONE, 0), 2);
        s.is("move", x.move(0, 1, 2), 5);
        s.is("the fault", x.fault(0), 1);
        s.is("its place", x.fault(1), 3);
        s.is("the tape", x.end(10), NONE);
        s.is("the tape", x.end(9), 9);
        s.is("the tape is taken", x.text(0, NONE), 1);
        s.is("as it was", x.town(1, 0), 6);

        s.promise(41, "false for another k");
        for (int k : new int[] {3, -1, FAR[0], FAR[1]}) s.is("image(" + k + ")", x.image(k), false);
        s.is("nothing was changed", x.count(0), 2);
        s.is("nor an image", x.again(2), true);
        s.is("nor an image", x.count(0), 1);
    }

    private static void again(Sentences s) {
        s.promise(42, "All that is as image k has it: true");
        LastWalker x = new LastWalker();
        for (int k = 0; k < 3; k++) {
            Due.day(x, "wait " + (k + 1) + ";");
            x.image(k);
        }
        for (int k : new int[] {0, 2, 1, 1, 0, 2}) {
            s.is("again(" + k + ")", x.again(k), true);
            s.is("days", x.count(1), k + 1);
            s.is("its last one", x.move(k, 0, 2), k + 1);
        }
        // What is told behind it changes no image, and an image is struck by a later one.
        Due.take(x, "wait 77;", 1, 0);
        s.is("again(2)", x.again(2), true);
        s.is("day 0", x.move(0, 0, 2), 1);
        Due.take(x, "wait 88;", 1, 0);
        x.image(2);
        s.is("again(0)", x.again(0), true);
        s.is("again(2)", x.again(2), true);
        s.is("day 0", x.move(0, 0, 2), 88);
        LastWalker empty = new LastWalker();
        empty.image(0);
        Due.town(empty, "");
        s.is("an image of nothing", empty.again(0), true);
        s.is("has nothing", empty.count(0), 0);

        s.promise(42, "false if there is none such");
        LastWalker y = s.told("");
        s.is("no image yet", y.again(0), false);
        s.is("image(1)", y.image(1), true);
        Due.town(y, "");
        for (int k : new int[] {0, 2, 3, -1, FAR[0], FAR[1]}) s.is("again(" + k + ")", y.again(k), false);
        s.is("nothing was changed", y.count(0), 2);
        s.is("again(1)", y.again(1), true);
        s.is("one town", y.count(0), 1);
        for (int k : new int[] {0, 2}) s.is("images are kept outside of images", y.again(k), false);
        y.image(0);
        s.is("again(1)", y.again(1), true);
        s.is("image 0 is still there", y.again(0), true);
    }
}
