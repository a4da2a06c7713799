/** Promise by promise, with answers worked out by hand from the document. */
public final class PromisesTest {
    private static final int NONE = LastWalker.NONE;
    private static final int NO_SUM = -100000;
    private static final long UNIT = 1_000_000_000_000L;

    // Road 0: 0-1, 10 minutes, 4 pennies; road 1: 1-2, 5 minutes, 3 pennies, 2's; road 2: 0-2, 20 minutes.
    private static final String TOWN = "places 3;road 0 1 10 4;road 1 2 5 3;road 0 2 20 2;own 0 1;cheap 0 2;short 2 0;"
            + "errand 0 2 0 100;errand 1 2 60 100;errand 2 0 90 100;busy 0 1 50;has 2 1;last;";
    private static final String DAY = "go 0 0;wait 10;go 0 1;go 2 1;wait 3;go 1 0;";

    private static final Due due = new Due("promises");

    public static void main(String[] args) {
        tapeAndTexts();
        faults();
        laterLinesStrike();
        afterAnotherTown();
        told();
        runs();
        runsThatStop();
        laws();
        bringsByLaws();
        worths();
        ways();
        waysOfEqualCost();
        rounds();
        allErrands();
        errandsThatAreNothing();
        errandsThatWait();
        nights();
        otherLaws();
        kinds();
        turnsWithoutEnd();
        freeRoad();
        needsAndPlaces();
        days();
        wholes();
        housesAndGifts();
        images();
        due.end();
    }

    private static LastWalker told(String town, String... days) {
        LastWalker x = new LastWalker();
        due.is("told " + town, Due.town(x, town), 0);
        for (int i = 0; i < days.length; i++) due.is("told " + days[i], Due.day(x, days[i]), i);
        return x;
    }

    // 1 to 5, 40
    private static void tapeAndTexts() {
        LastWalker x = new LastWalker();
        due.is("new: towns", x.count(0), 0);
        due.is("new: days", x.count(1), 0);
        due.is("count 2", x.count(2), -2);
        due.is("count -1", x.count(-1), -2);
        due.is("new: fault", x.fault(0), 0);
        due.is("new: place", x.fault(1), NONE);
        due.is("fault 2", x.fault(2), NONE);
        due.is("fault -1", x.fault(-1), NONE);
        due.is("new: image", x.again(0), false);
        for (int i = 1; i <= 30; i++) due.is("feed " + i, x.feed(0, 1, 2, 3, 4), 20 * i);
        due.is("feed beyond 600", x.feed(0, 0, 0, 0, 0), NONE);
        due.is("end 601", x.end(601), NONE);
        due.is("end -1", x.end(-1), NONE);
        due.is("end 581", x.end(581), 581);
        due.is("feed to 601", x.feed(0, 0, 0, 0, 0), NONE);
        due.is("end 580", x.end(580), 580);
        due.is("feed to 600", x.feed(0, 0, 0, 0, 0), 600);
        due.is("end 600", x.end(600), 600);
        due.is("end 0", x.end(0), 0);
        due.is("end 1", x.end(1), NONE);
        // "last;" and fifteen blanks: each number's highest byte first
        due.is("feed last", x.feed(0x6c617374, 0x3b202020, 0x20202020, 0x20202020, 0x20202020), 20);
        due.is("text", x.text(0, NONE), 0);
        due.is("the tape is empty", x.end(1), NONE);
        due.is("towns", x.count(0), 1);
        due.is("empty text", x.text(0, NONE), 1);
        due.is("places at first", x.town(1, 0), 4);
        due.is("a third town", x.text(0, NONE), -2);
        due.is("in the place of town 1", Due.take(x, "places 7;", 0, 1), 1);
        due.is("places", x.town(1, 0), 7);
        due.is("a fault leaves the old", Due.take(x, "places 1;", 0, 1), NONE);
        due.is("places", x.town(1, 0), 7);
        due.is("fault", x.fault(0), 2);
        due.is("place", x.fault(1), 7);
        due.is("town 2", x.text(0, 2), -2);
        due.is("-2 has no fault", x.fault(0), 0);
        due.is("-2 has no place", x.fault(1), NONE);
        due.is("town -2", x.text(0, -2), -2);
        due.is("sort 2", x.text(2, NONE), -2);
        due.is("sort -1", x.text(-1, NONE), -2);
        due.is("full, a spoilt text is not read", Due.take(x, "#", 0, NONE), -2);
        due.is("fault", x.fault(0), 0);
        due.is("day 0 is none", x.text(1, 0), -2);
        for (int i = 0; i < 3; i++) due.is("day " + i, x.text(1, NONE), i);
        due.is("a fourth day", x.text(1, NONE), -2);
        due.is("days", x.count(1), 3);
        due.is("in the place of day 2", Due.take(x, "wait 5;wait 6;", 1, 2), 2);
        due.is("moves", x.move(2, NONE, 0), 2);
    }

    private static void fault(int sort, String text, int fault, int place) {
        LastWalker x = new LastWalker();
        String call = "text " + sort + " \"" + text + "\"";
        due.is(call, Due.take(x, text, sort, NONE), fault == 0 ? 0 : NONE);
        due.is(call + " fault", x.fault(0), fault);
        due.is(call + " place", x.fault(1), place);
        due.is(call + " count", x.count(sort), fault == 0 ? 1 : 0);
    }

    // 4, 5 and the faults of term 1
    private static void faults() {
        fault(0, "", 0, NONE);
        fault(1, " \n ", 0, NONE);
        fault(0, "places1", 1, 7);
        fault(0, "places 1;", 2, 7);
        fault(0, "places 10;", 2, 7);
        fault(0, "places 2;", 0, NONE);
        fault(0, "places\n009 ;", 0, NONE);
        fault(0, "places 0009;", 1, 7);
        fault(0, "noon 1000;", 1, 5);
        fault(0, "noon 999;", 0, NONE);
        fault(0, "last", 1, 4);
        fault(0, "last  ", 1, 6);
        fault(0, ";", 1, 0);
        fault(0, "last;;", 1, 5);
        fault(0, "lasts;", 1, 0);
        fault(0, "lastz;", 1, 0);
        fault(0, "lasta;", 1, 0);
        fault(0, "last;\tlast;", 1, 5);
        fault(0, "last 1;", 1, 5);
        fault(0, "Last;", 1, 0);
        fault(0, "places 3 3;", 1, 9);
        fault(0, "road 0 x 1 1;", 1, 7);
        fault(0, "go 0 0;", 1, 0);
        fault(1, "last;", 1, 0);
        fault(1, "go 0;", 1, 4);
        fault(1, "go 8 0;", 2, 3);
        fault(1, "go 7 13;", 0, NONE);
        fault(1, "go 0 14;", 2, 5);
        fault(1, "wait 0;", 2, 5);
        fault(1, "wait 999;", 0, NONE);
        fault(1, "wait;", 1, 4);
        fault(0, "road 0 0 1 1;", 2, 7);
        fault(0, "road 9 1 1 1;", 2, 5);
        fault(0, "road 0 9 1 1;", 2, 7);
        fault(0, "road 0 1 0 1;", 2, 9);
        fault(0, "road 0 1 31 1;", 2, 9);
        fault(0, "road 0 1 30 99;", 0, NONE);
        fault(0, "road 0 1 1 100;", 2, 11);
        fault(0, "short 9 1;", 2, 6);
        fault(0, "short 0 10;", 2, 8);
        fault(0, "cheap 9 1;", 2, 6);
        fault(0, "cheap 0 10;", 2, 8);
        fault(0, "own 9 1;", 2, 4);
        fault(0, "own 0 10;", 2, 6);
        fault(0, "own 3 9;", 0, NONE);
        fault(0, "errand 0 1 1 1;", 2, 7);
        fault(0, "errand 0 1 1 1;own 0 1;", 2, 7);
        fault(0, "own 0 1;errand 1 1 1 1;", 2, 15);
        fault(0, "own 0 1;errand 0 9 1 1;", 2, 17);
        fault(0, "own 0 1;errand 0 1 360 1;", 2, 19);
        fault(0, "own 0 1;errand 0 1 359 101;", 2, 23);
        fault(0, "own 0 1;errand 0 1 359 100;", 0, NONE);
        fault(0, "has 0 0;", 2, 4);
        fault(0, "own 0 1;has 0 0;", 2, 14);
        fault(0, "own 0 1;road 0 1 1 1;has 0 1;", 2, 27);
        fault(0, "busy 0 0 1;", 2, 5);
        fault(0, "road 0 1 1 1;busy 0 6 1;", 2, 20);
        fault(0, "road 0 1 1 1;busy 0 5 101;", 2, 22);
        // A line with a number that can't be tells its road all the same, but it is the first fault.
        fault(0, "road 0 1 31 1;busy 0 9 1;", 2, 9);
        // Form is first, wherever it is.
        fault(0, "places 1;road 0 0 1 1;last", 1, 26);
        fault(0, "road 0 4 1 1;", 4, 13);
        fault(0, "road 4 0 1 1; \n", 4, 15);
        fault(0, "places 2;own 2 1;", 4, 17);
        fault(0, "own 0 1;errand 0 4 1 1;", 4, 23);
        fault(0, "road 0 4 1 1;places 5;", 0, NONE);
        fault(0, "road 0 3 1 1;places 3;", 4, 22);
        fault(0, "road 0 8 1 1;places 1;", 2, 20);
        fault(0, "road 0 1 1 1;".repeat(14), 0, NONE);
        fault(0, "road 0 1 1 1;".repeat(15), 3, 14 * 13);
        fault(0, "road 0 1 1 1;".repeat(14) + "road 0 0 1 1;", 3, 14 * 13);
        fault(0, "road 0 1 1 1;".repeat(13) + "road 0 0 1 1;road 0 1 1 1;", 2, 13 * 13 + 7);
        fault(0, "own 0 1;".repeat(8), 0, NONE);
        fault(0, "own 0 1;".repeat(8) + "short 0 1;", 3, 64);
        fault(0, "own 0 1;" + "errand 0 1 1 1;".repeat(12), 0, NONE);
        fault(0, "own 0 1;" + "errand 0 1 1 1;".repeat(13), 3, 8 + 12 * 15);
        fault(1, "wait 1;".repeat(40), 0, NONE);
        fault(1, "wait 1;".repeat(39) + "go 0 0;go 0 0;", 3, 280);
        fault(1, "go 0 0;".repeat(40) + "wait 0;", 3, 280);
    }

    private static void laterLinesStrike() {
        LastWalker x = told("places 3;places 5;noon 100;first;road 0 1 2 3;own 0 1;own 0 2;has 0 0;has 1 0;busy 0 0 5;busy 0 0 7;");
        due.is("places", x.town(0, 0), 5);
        due.is("law", x.town(0, 4), 1);
        due.is("noon's minute stays told", x.town(0, 5), 100);
        due.is("has", x.road(0, 0, 4), 1);
        due.is("busy", x.road(0, 0, 10), 7);
        due.is("people", x.town(0, 2), 2);
    }

    /** Nothing of an earlier town comes into a later one. */
    private static void afterAnotherTown() {
        LastWalker x = told("places 9;noon 77;road 0 1 2 3;own 0 1;has 0 0;busy 0 0 5;errand 0 1 0 0;");
        due.is("a later town", Due.town(x, "road 0 1 2 3;"), 1);
        int[] town = {4, 1, 0, 0, 0, 0};
        for (int w = 0; w < 6; w++) due.is("later town " + w, x.town(1, w), town[w]);
        due.is("nobody's", x.road(1, 0, 4), NONE);
        due.is("not busy", x.road(1, 0, 10), 0);
        due.is("the first one stands", x.town(0, 5), 77);
    }

    // 6 to 10
    private static void told() {
        LastWalker x = told(TOWN, DAY);
        int[] town = {3, 3, 3, 3, 0, 0};
        for (int w = 0; w < 6; w++) due.is("town " + w, x.town(0, w), town[w]);
        due.is("town 6", x.town(0, 6), NONE);
        due.is("town -1", x.town(0, -1), NONE);
        due.is("town of none", x.town(1, 0), NONE);
        due.is("town of -1", x.town(-1, 0), NONE);
        int[] road = {1, 2, 5, 3, 2};
        for (int w = 0; w < 5; w++) due.is("road 1 " + w, x.road(0, 1, w), road[w]);
        due.is("road 0 is nobody's", x.road(0, 0, 4), NONE);
        due.is("busy", x.road(0, 0, 11), 50);
        due.is("busy", x.road(0, 0, 10), 0);
        due.is("busy", x.road(0, 0, 15), 0);
        for (int w : new int[] {-1, 5, 9, 16}) due.is("road what " + w, x.road(0, 0, w), -2);
        due.is("road 3", x.road(0, 3, 0), -2);
        due.is("road -1", x.road(0, -1, 0), -2);
        due.is("road of no town", x.road(1, 0, 0), -2);
        int[][] people = {{0, 1, 2}, {0, 2, 1}, {2, 0, 0}};
        for (int p = 0; p < 3; p++) {
            for (int w = 0; w < 3; w++) due.is("person " + p + " " + w, x.person(0, p, w), people[p][w]);
        }
        due.is("person 3", x.person(0, 3, 0), NONE);
        due.is("person -1", x.person(0, -1, 0), NONE);
        due.is("person what 3", x.person(0, 0, 3), NONE);
        due.is("person of no town", x.person(1, 0, 0), NONE);
        int[] errand = {1, 2, 60, 100};
        for (int w = 0; w < 4; w++) due.is("errand 1 " + w, x.errand(0, 1, w), errand[w]);
        due.is("errand 3", x.errand(0, 3, 0), NONE);
        due.is("errand -1", x.errand(0, -1, 0), NONE);
        due.is("errand what 4", x.errand(0, 0, 4), NONE);
        due.is("errand of no town", x.errand(-1, 0, 0), NONE);
        due.is("moves", x.move(0, NONE, 0), 6);
        due.is("moves what 1", x.move(0, NONE, 1), -2);
        int[][] moves = {{0, 0, 0}, {1, NONE, 10}, {0, 0, 1}, {0, 2, 1}, {1, NONE, 3}, {0, 1, 0}};
        for (int m = 0; m < 6; m++) {
            for (int w = 0; w < 3; w++) due.is("move " + m + " " + w, x.move(0, m, w), moves[m][w]);
        }
        due.is("move 6", x.move(0, 6, 0), -2);
        due.is("move -2", x.move(0, -2, 0), -2);
        due.is("move what 3", x.move(0, 0, 3), -2);
        due.is("move of no day", x.move(1, 0, 0), -2);
        due.is("moves of no day", x.move(1, NONE, 0), -2);
    }

    // 11 to 14
    private static void runs() {
        LastWalker x = told(TOWN, DAY);
        due.is("stop", x.run(0, 0, 0), 6);
        due.is("met", x.run(0, 0, 1), 1);
        due.is("run what 2", x.run(0, 0, 2), NONE);
        due.is("run of no town", x.run(1, 0, 0), NONE);
        due.is("run of no day", x.run(0, 1, 0), NONE);
        due.is("run of day NONE", x.run(0, NONE, 0), NONE);
        // {clock, paid, roads 0 to 2, places 0 to 2, came 0 to 2}
        int[][] states = {
            {0, 0, NONE, 2, NONE, 0, 0, 2, 0, 0, 0},
            {0, 0, 0, 2, NONE, 1, 0, 2, 10, 0, 0},
            {10, 0, 0, 2, NONE, 1, 0, 2, 10, 0, 0},
            {10, 3, 0, 0, NONE, 2, 0, 2, 15, 0, 0},
            {10, 6, 0, 2, NONE, 2, 0, 1, 15, 0, 15},
            {13, 6, 0, 2, NONE, 2, 0, 1, 15, 0, 15},
            {13, 10, 1, 2, NONE, 2, 1, 1, 15, 23, 15},
        };
        int[] what = {0, 1, 10, 11, 12, 30, 31, 32, 40, 41, 42};
        for (int n = 0; n < states.length; n++) {
            for (int w = 0; w < what.length; w++) {
                due.is("state " + n + " " + what[w], x.state(0, 0, n, what[w]), states[n][w]);
            }
        }
        for (int w : new int[] {-1, 2, 9, 13, 29, 33, 39, 43}) due.is("state what " + w, x.state(0, 0, 6, w), -2);
        due.is("state 7", x.state(0, 0, 7, 0), -2);
        due.is("state -1", x.state(0, 0, -1, 0), -2);
        due.is("state of day NONE", x.state(0, NONE, 0, 11), 2);
        due.is("state 1 of day NONE", x.state(0, NONE, 1, 11), -2);
        due.is("state of no day", x.state(0, 1, 0, 0), -2);
        due.is("state of day -2", x.state(0, -2, 0, 0), -2);
        due.is("state of no town", x.state(1, 0, 0, 0), -2);
        due.is("paid 0 to 2", x.paid(0, 0, 6, 0, 2), 3);
        due.is("paid 2 to 0", x.paid(0, 0, 6, 2, 0), 3);
        due.is("paid 1 to 0", x.paid(0, 0, 6, 1, 0), 4);
        due.is("paid 0 to 1", x.paid(0, 0, 6, 0, 1), 0);
        due.is("paid to himself", x.paid(0, 0, 6, 0, 0), 0);
        due.is("paid by then", x.paid(0, 0, 5, 1, 0), 0);
        due.is("paid by 3", x.paid(0, 0, 6, 3, 0), NONE);
        due.is("paid to -1", x.paid(0, 0, 6, 0, -1), NONE);
        due.is("paid in no state", x.paid(0, 0, 7, 0, 1), NONE);
        due.is("paid in no town", x.paid(1, 0, 0, 0, 1), NONE);
        due.is("brings 0 from 1", x.brings(0, 0, 1, 0), 4);
        due.is("brings 0 from 6", x.brings(0, 0, 6, 0), 0);
        due.is("brings nobody's", x.brings(0, 0, 0, 0), NONE);
        due.is("brings 1 from 0", x.brings(0, 0, 0, 1), 3);
        due.is("brings 1 from 3", x.brings(0, 0, 3, 1), 3);
        due.is("brings 1 from 4", x.brings(0, 0, 4, 1), 0);
        due.is("brings by day NONE", x.brings(0, NONE, 0, 1), 0);
        due.is("brings road 3", x.brings(0, 0, 0, 3), NONE);
        due.is("brings in no state", x.brings(0, 0, 7, 1), NONE);
    }

    private static int stop(String town, String day) {
        return told(town, day).run(0, 0, 0);
    }

    private static void runsThatStop() {
        String town = "places 3;road 0 1 10 4;road 1 2 5 3;own 0 1;own 1 1;";
        due.is("one who is not there", stop(town, "wait 1;go 2 0;"), 1);
        due.is("a road that is not there", stop(town, "go 0 2;wait 1;"), 0);
        due.is("not at an end", stop(town, "go 0 1;"), 0);
        due.is("still walks", stop(town, "go 0 0;wait 9;go 0 1;"), 2);
        due.is("came just now", stop(town, "go 0 0;wait 10;go 0 1;"), 3);
        due.is("the other way", stop(town, "go 1 0;wait 10;go 1 0;"), 3);
        due.is("no moves", stop(town, ""), 0);
        LastWalker x = told(town, "go 0 0;go 1 0;wait 10;go 0 0;go 1 0;wait 9;go 0 0;go 0 0;");
        due.is("stop", x.run(0, 0, 0), 6);
        due.is("met twice", x.run(0, 0, 1), 2);
        due.is("a state at the stop", x.state(0, 0, 6, 0), 19);
        due.is("none behind it", x.state(0, 0, 7, 0), -2);
        LastWalker twice = told("places 2;road 0 1 1 5;short 0 0;short 0 0;has 1 0;first;", "go 0 0;wait 1;go 0 0;wait 1;go 1 0;");
        due.is("paid twice", twice.paid(0, 0, 5, 0, 1), 10);
        due.is("paid in all", twice.state(0, 0, 5, 1), 10);
        // One who went on the road and goes on another one walks it no more.
        due.is("no meeting", told(town, "go 0 0;wait 10;go 1 0;").run(0, 0, 1), 0);
    }

    private static void laws() {
        String town = "places 2;road 0 1 1 5;short 0 0;short 0 0;short 0 0;";
        String day = "go 0 0;go 1 0;wait 5;go 2 0;";
        int[][] owners = {{NONE, 0, 1, 1, 2}, {NONE, 0, 0, 0, 0}, {NONE, 0, 1, 1, 1}, {NONE, NONE, NONE, NONE, NONE}};
        String[] law = {"last;", "first;", "noon 5;", "none;"};
        int[] paid = {10, 10, 10, 0};
        for (int l = 0; l < 4; l++) {
            LastWalker x = told(town + law[l], day);
            for (int n = 0; n <= 4; n++) due.is(law[l] + " owner " + n, x.state(0, 0, n, 10), owners[l][n]);
            due.is(law[l] + " paid", x.state(0, 0, 4, 1), paid[l]);
        }
        due.is("noon is above", told(town + "noon 6;", day).state(0, 0, 4, 10), 2);
        LastWalker none = told(town + "has 1 0;none;", day);
        due.is("told whose", none.road(0, 0, 4), 1);
        due.is("by none nobody's", none.state(0, NONE, 0, 10), NONE);
        due.is("nothing is paid", none.state(0, 0, 4, 1), 0);
        due.is("and none brings", none.brings(0, 0, 0, 0), NONE);
    }

    private static void bringsByLaws() {
        String town = "places 2;road 0 1 1 5;road 0 1 1 7;short 0 0;short 0 0;short 0 0;has 0 0;";
        String day = "go 1 0;go 2 1;go 0 0;wait 5;go 2 0;go 1 0;";
        due.is("first brings on", told(town + "first;", day).brings(0, 0, 0, 0), 15);
        due.is("last brings once", told(town, day).brings(0, 0, 0, 0), 5);
        due.is("last, once more his", told(town, day).brings(0, 0, 3, 0), 5);
        due.is("noon, from then on his", told(town + "noon 5;", day).brings(0, 0, 3, 0), 10);
        due.is("up to the stop", told(town + "first;", "go 1 0;go 1 0;wait 1;go 1 0;").brings(0, 0, 0, 0), 5);
    }

    // 15
    private static void worths() {
        String town = "places 2;road 0 1 1 10;road 0 1 1 3;busy 0 0 50;busy 0 1 50;busy 0 5 20;";
        LastWalker x = told(town);
        // 10 * (0.5 + 0.25 + 0.25 * 0.2)
        due.is("last 0", x.worth(0, 0, 0), 8 * UNIT);
        due.is("last 1", x.worth(0, 0, 1), 6 * UNIT);
        due.is("last 2", x.worth(0, 0, 2), 2 * UNIT);
        due.is("last 5", x.worth(0, 0, 5), 2 * UNIT);
        due.is("last 6", x.worth(0, 0, 6), 0);
        due.is("never busy", x.worth(0, 1, 0), 0);
        for (int h : new int[] {-1, 7}) due.is("hour " + h, x.worth(0, 0, h), NONE);
        due.is("no road", x.worth(0, 2, 0), NONE);
        due.is("no town", x.worth(1, 0, 0), NONE);
        due.is("first", told(town + "first;").worth(0, 0, 0), 12 * UNIT);
        due.is("none", told(town + "none;").worth(0, 0, 0), 0);
        // noon 60: hour 0 lowers it, hour 1 does not: 10 * (0.5 + 0.5 * 0.5 + 0.5 * 0.2)
        due.is("noon 60", told(town + "noon 60;").worth(0, 0, 0), 85 * UNIT / 10);
        due.is("noon 61", told(town + "noon 61;").worth(0, 0, 0), 8 * UNIT);
        due.is("noon 0", told(town + "noon 0;").worth(0, 0, 0), 12 * UNIT);
        // Six hours of 99 in 100 still come out whole.
        LastWalker y = told("places 2;road 0 1 1 1;busy 0 0 99;busy 0 1 99;busy 0 2 99;busy 0 3 99;busy 0 4 99;busy 0 5 99;");
        due.is("six hours", y.worth(0, 0, 0), UNIT - 1);
    }

    // 16, 17
    private static void ways() {
        LastWalker x = told(TOWN, DAY);
        due.is("short: roads", x.way(0, NONE, 0, 0, 0, 0, 0, 2, 0), 2);
        due.is("short: minutes", x.way(0, NONE, 0, 0, 0, 0, 0, 2, 1), 15);
        due.is("short: pays", x.way(0, NONE, 0, 0, 0, 0, 0, 2, 2), 3);
        due.is("short: road 0", x.way(0, NONE, 0, 0, 0, 0, 0, 2, 10), 0);
        due.is("short: road 1", x.way(0, NONE, 0, 0, 0, 0, 0, 2, 11), 1);
        for (int w : new int[] {-1, 3, 9, 12}) due.is("way what " + w, x.way(0, NONE, 0, 0, 0, 0, 0, 2, w), -2);
        due.is("short: cost", x.cost(0, NONE, 0, 0, 0, 0, 0, 2, false), 15 * UNIT);
        due.is("cheap: cost of 1", x.cost(0, NONE, 0, 1, 1, 0, 0, 2, false), 33 * UNIT);
        due.is("cheap: of 2, without care", x.cost(0, NONE, 0, 2, 1, 0, 0, 2, false), 0);
        due.is("cheap: of 2, who has road 1", x.way(0, NONE, 0, 2, 1, 0, 0, 2, 10), 2);
        due.is("own: road 0 is worth 2", x.cost(0, NONE, 0, 0, 2, 0, 0, 2, false), 16 * UNIT);
        due.is("own: at 59", x.cost(0, NONE, 0, 0, 2, 59, 0, 2, false), 16 * UNIT);
        due.is("own: at 60", x.cost(0, NONE, 0, 0, 2, 60, 0, 2, false), 18 * UNIT);
        due.is("own: at 999", x.cost(0, NONE, 0, 0, 2, 999, 0, 2, false), 18 * UNIT);
        due.is("own: it is his", x.cost(0, 0, 1, 0, 2, 0, 0, 2, false), 18 * UNIT);
        // There 16, road 0 and 1 are his then: back 15.
        due.is("there and back", x.cost(0, NONE, 0, 0, 2, 0, 0, 2, true), 31 * UNIT);
        due.is("cheap there and back", x.cost(0, NONE, 0, 1, 1, 0, 0, 2, true), 63 * UNIT);
        due.is("nothing has changed", x.cost(0, NONE, 0, 1, 1, 0, 0, 2, false), 33 * UNIT);
        due.is("to itself", x.way(0, NONE, 0, 0, 0, 0, 1, 1, 0), -2);
        due.is("cost to itself", x.cost(0, NONE, 0, 0, 0, 0, 1, 1, false), Long.MIN_VALUE);
        due.is("no person", x.way(0, NONE, 0, 3, 0, 0, 0, 2, 0), -2);
        due.is("no kind", x.way(0, NONE, 0, 0, 3, 0, 0, 2, 0), -2);
        due.is("no kind -1", x.cost(0, NONE, 0, 0, -1, 0, 0, 2, true), Long.MIN_VALUE);
        due.is("minute 1000", x.way(0, NONE, 0, 0, 0, 1000, 0, 2, 0), -2);
        due.is("minute -1", x.way(0, NONE, 0, 0, 0, -1, 0, 2, 0), -2);
        due.is("place 3", x.way(0, NONE, 0, 0, 0, 0, 0, 3, 0), -2);
        due.is("place -1", x.way(0, NONE, 0, 0, 0, 0, -1, 2, 0), -2);
        due.is("no state", x.way(0, 0, 7, 0, 0, 0, 0, 2, 0), -2);
        due.is("no town", x.way(1, NONE, 0, 0, 0, 0, 0, 2, 0), -2);
        due.is("no way", told("places 3;road 0 1 1 1;own 0 1;").way(0, NONE, 0, 0, 0, 0, 0, 2, 0), -2);
        // The first road is walked in hour 0, the second in hour 1: its worth from hour 2 on counts.
        LastWalker y = told("places 3;road 0 1 30 0;road 1 2 1 10;own 0 0;busy 1 1 100;busy 1 2 40;");
        due.is("hour of the second road", y.cost(0, NONE, 0, 0, 2, 30, 0, 2, false), -4 * UNIT);
        due.is("a minute sooner", y.cost(0, NONE, 0, 0, 2, 29, 0, 2, false), -10 * UNIT);
        String noon = "places 3;road 0 1 30 0;road 1 2 1 10;own 0 0;busy 1 1 100;busy 1 2 40;";
        due.is("noon at 31", told(noon + "noon 31;").cost(0, NONE, 0, 0, 2, 0, 0, 2, false), -14 * UNIT);
        due.is("noon at 30", told(noon + "noon 30;").cost(0, NONE, 0, 0, 2, 0, 0, 2, false), 0);
        // Behind the last hour there is no worth: hour 5 is the last, at 360 and later too.
        LastWalker late = told("places 2;road 0 1 1 10;road 0 1 2 10;own 0 1;busy 0 5 100;busy 1 0 100;busy 1 5 100;");
        due.is("at 299 the next hour is 5", late.cost(0, NONE, 0, 0, 2, 299, 0, 1, false), -9 * UNIT);
        for (int minute : new int[] {300, 359, 360, 365, 366, 420, 999}) {
            due.is("at " + minute, late.cost(0, NONE, 0, 0, 2, minute, 0, 1, false), UNIT);
        }
        LastWalker first = told(noon + "own 0 0;has 1 1;first;");
        due.is("first: it stays another one's", first.cost(0, NONE, 0, 0, 2, 0, 0, 2, false), 10 * UNIT);
    }

    private static void waysOfEqualCost() {
        LastWalker x = told("places 3;road 0 1 1 0;road 1 2 1 0;road 0 2 2 0;road 2 0 2 0;own 0 1;");
        due.is("the fewest roads", x.way(0, NONE, 0, 0, 0, 0, 0, 2, 0), 1);
        due.is("the least row", x.way(0, NONE, 0, 0, 0, 0, 0, 2, 10), 2);
        LastWalker y = told("places 4;road 3 2 1 0;road 0 3 1 0;road 1 2 1 0;road 1 0 1 0;own 0 1;");
        due.is("the least first road", y.way(0, NONE, 0, 0, 0, 0, 0, 2, 10), 1);
        due.is("then the next", y.way(0, NONE, 0, 0, 0, 0, 0, 2, 11), 0);
        due.is("without care all is one", told("road 0 1 9 0;road 0 1 1 0;cheap 0 0;").way(0, NONE, 0, 0, 1, 0, 0, 1, 1), 9);
    }

    // 18, 19, 39
    private static void rounds() {
        String town = "places 2;road 0 1 1 10;road 0 1 1 20;own 0 1;own 0 9;busy 0 1 100;busy 1 1 50;";
        LastWalker x = told(town, "go 0 1;");
        due.is("round: roads", x.round(0, NONE, 0, 0, 0, 0, 0), 2);
        due.is("round: road 0", x.round(0, NONE, 0, 0, 0, 0, 10), 0);
        due.is("round: road 1", x.round(0, NONE, 0, 0, 0, 0, 11), 1);
        for (int w : new int[] {-1, 1, 2, 9, 12}) due.is("round what " + w, x.round(0, NONE, 0, 0, 0, 0, w), NONE);
        due.is("gain", x.gain(0, NONE, 0, 0, 0, 0), -18 * UNIT);
        due.is("rounds", x.rounds(0, NONE, 0, 0, 0, 0), 2);
        due.is("with road 1 his", x.gain(0, 0, 1, 0, 0, 1), -8 * UNIT);
        due.is("of 1, not below", x.gain(0, NONE, 0, 1, 0, 0), -2 * UNIT);
        due.is("of 1, who pays for road 1", x.gain(0, 0, 1, 1, 0, 0), 0);
        due.is("no round", x.round(0, 0, 1, 1, 0, 0, 0), NONE);
        due.is("no rounds", x.rounds(0, 0, 1, 1, 0, 0), 0);
        due.is("too late", x.gain(0, NONE, 0, 0, 60, 0), 0);
        due.is("no state", x.round(0, 0, 2, 0, 0, 0, 0), NONE);
        due.is("no state", x.rounds(0, 0, 2, 0, 0, 0), NONE);
        due.is("no person", x.rounds(0, NONE, 0, 2, 0, 0), NONE);
        due.is("minute 1000", x.rounds(0, NONE, 0, 0, 1000, 0), NONE);
        due.is("minute 1000", x.round(0, NONE, 0, 0, 1000, 0, 0), NONE);
        due.is("minute 999", x.rounds(0, NONE, 0, 0, 999, 0), 0);
        due.is("no place", x.rounds(0, NONE, 0, 0, 0, 2), NONE);
        due.is("no town", x.gain(1, NONE, 0, 0, 0, 0), 0);
        // Places may come twice: 0 1 0 1 0 over four roads; of three roads no round ends.
        LastWalker y = told("places 2;road 0 1 1 10;road 0 1 1 10;road 0 1 1 10;road 0 1 1 10;own 0 1;"
                + "busy 0 1 100;busy 1 1 100;busy 2 1 100;busy 3 1 100;");
        due.is("four roads", y.round(0, NONE, 0, 0, 0, 0, 0), 4);
        due.is("their gain", y.gain(0, NONE, 0, 0, 0, 0), -36 * UNIT);
        due.is("12 of two, 24 of four", y.rounds(0, NONE, 0, 0, 0, 0), 36);
        for (int i = 0; i < 4; i++) due.is("road " + i, y.round(0, NONE, 0, 0, 0, 0, 10 + i), i);
        // A ring of seven is too long, one of six is not.
        String six = "places 7;road 0 1 1 9;road 1 2 1 9;road 2 3 1 9;road 3 4 1 9;road 4 5 1 9;";
        String busy = "own 0 0;busy 0 1 9;";
        due.is("ring of six", told(six + "road 5 0 1 9;" + busy).rounds(0, NONE, 0, 0, 0, 0), 2);
        due.is("ring of seven", told(six + "road 5 6 1 9;road 6 0 1 9;" + busy).rounds(0, NONE, 0, 0, 0, 0), 0);
    }

    // 20
    private static void allErrands() {
        LastWalker x = told(TOWN);
        int[][] figures = {{15, 3, 7, 0, 11}, {15, 7, 7, 0, 30}, {15, 7, 3, 0, 4}};
        for (int w = 0; w < 5; w++) {
            int sum = 0;
            for (int p = 0; p < 3; p++) {
                due.is("all of " + p + " " + w, x.all(0, 7, p, w), figures[p][w]);
                sum += figures[p][w];
            }
            due.is("all " + w, x.all(0, 7, NONE, w), sum);
        }
        due.is("of none", x.all(0, 0, NONE, 0), 0);
        due.is("errand 2 alone", x.all(0, 4, 2, 1), 0);
        due.is("errands 8", x.all(0, 8, NONE, 0), NO_SUM);
        due.is("errands -1", x.all(0, -1, NONE, 0), NO_SUM);
        due.is("person 3", x.all(0, 7, 3, 0), NO_SUM);
        due.is("person -2", x.all(0, 7, -2, 0), NO_SUM);
        due.is("what 5", x.all(0, 7, NONE, 5), NO_SUM);
        due.is("what 5 of one", x.all(0, 7, 0, 5), NO_SUM);
        due.is("what -1", x.all(0, 7, 0, -1), NO_SUM);
        due.is("no town", x.all(1, 0, NONE, 0), NO_SUM);
        // A cheap one goes round what costs him: 12 minutes for 9 are 3 needless.
        LastWalker y = told("road 0 1 12 0;road 0 1 9 50;cheap 0 1;short 0 0;has 1 1;errand 0 1 5 1;");
        due.is("walked", y.all(0, 1, 0, 0), 12);
        due.is("needless", y.all(0, 1, 0, 3), 3);
        due.is("needless of all", y.all(0, 1, NONE, 3), 3);
        due.is("net", y.all(0, 1, 0, 4), 12);
    }

    private static void errandsThatAreNothing() {
        LastWalker x = told("places 3;road 0 1 5 1;short 0 1;errand 0 0 0 1;errand 0 2 1 1;errand 0 1 2 1;errand 0 1 3 1;");
        due.is("walked", x.all(0, 15, 0, 0), 5);
        due.is("waits", x.whole(0, 15, 2), 0);
        due.is("late", x.whole(0, 15, 1), 7);
        due.is("late of none gone", x.whole(0, 3, 1), 0);
        due.is("visits", x.visits(0, 15, 0, false), 1);
    }

    private static void errandsThatWait() {
        // By minutes 1 then 0; the second begins when he came, from where he is.
        LastWalker x = told("places 3;road 0 1 20 4;road 1 2 30 5;short 0 1;short 0 0;errand 0 2 10 1;errand 0 1 0 1;errand 1 1 10 1;");
        due.is("walked", x.all(0, 3, 0, 0), 50);
        due.is("waits", x.whole(0, 3, 2), 10);
        due.is("late", x.whole(0, 3, 1), 50);
        due.is("errand 0 alone", x.whole(0, 1, 1), 60);
        due.is("1 pays 0", x.all(0, 7, 1, 1), 4);
        due.is("road 0 is 1's", x.night(0, 7, 0, 0), 1);
        // Of one minute by numbers.
        LastWalker y = told("places 3;road 0 1 20 4;road 1 2 30 5;short 0 1;errand 0 2 10 1;errand 0 1 10 1;");
        due.is("by numbers", y.all(0, 3, 0, 0), 80);
        // By noon a road's own minute tells: road 1 is walked at 20.
        String noon = "places 3;road 0 1 20 4;road 1 2 30 5;short 0 1;errand 0 2 0 1;";
        due.is("noon 20", told(noon + "noon 20;").night(0, 1, 1, 0), NONE);
        due.is("noon 21", told(noon + "noon 21;").night(0, 1, 1, 0), 0);
    }

    // 21
    private static void nights() {
        LastWalker x = told(TOWN);
        int[] owner = {2, 2, NONE};
        for (int r = 0; r < 3; r++) due.is("night " + r, x.night(0, 7, r, 0), owner[r]);
        due.is("of 2", x.night(0, 7, NONE, 2), 2);
        due.is("of 0", x.night(0, 7, NONE, 0), 0);
        due.is("of nobody", x.night(0, 7, NONE, NONE), 1);
        due.is("of 7", x.night(0, 7, NONE, 7), 0);
        due.is("of 8", x.night(0, 7, NONE, 8), -2);
        due.is("of -2", x.night(0, 7, NONE, -2), -2);
        due.is("at first", x.night(0, 0, 1, 0), 2);
        due.is("road 3", x.night(0, 7, 3, 0), -2);
        due.is("road -2", x.night(0, 7, -2, 0), -2);
        due.is("errands 8", x.night(0, 8, 0, 0), -2);
        due.is("no town", x.night(1, 0, 0, 0), -2);
    }

    // 22, 34 (which)
    private static void otherLaws() {
        LastWalker x = told(TOWN);
        due.is("last", x.other(0, 7, 0, 1), 17);
        // first: 0 gets road 0 and pays 3 for road 1; 1 pays 4 and 3; 2 pays 4.
        due.is("first", x.other(0, 7, 1, 1), 14);
        // noon 0: roads stay: 0 pays 3, 1 pays 3, 2 nothing.
        due.is("noon", x.other(0, 7, 2, 1), 6);
        due.is("none", x.other(0, 7, 3, 1), 0);
        due.is("walked", x.other(0, 7, 3, 0), 45);
        due.is("net", x.other(0, 7, 3, 4), 45);
        due.is("law 4", x.other(0, 7, 4, 0), NO_SUM);
        due.is("law -1", x.other(0, 7, -1, 0), NO_SUM);
        due.is("what 5", x.other(0, 7, 0, 5), NO_SUM);
        due.is("errands 8", x.other(0, 8, 0, 0), NO_SUM);
        due.is("the town is as it was", x.town(0, 4), 0);
        due.is("from none to last", told(TOWN + "none;").other(0, 7, 0, 1), 17);
        due.is("which, all the same", x.whole(0, 7, 3), 0);
        // By last and first road 1 is paid for twice and gone round; by noon 1 and none it is not.
        String town = "road 0 1 12 0;road 0 1 9 50;short 0 0;cheap 0 1;errand 0 1 0 1;errand 1 1 1 1;";
        due.is("which by noon 0", told(town).whole(0, 3, 3), 2);
        due.is("which by noon 999", told(town + "noon 999;").whole(0, 3, 3), 3);
    }

    // 23 to 26
    private static void kinds() {
        LastWalker x = told(TOWN);
        due.is("turned 0", x.turned(0, 7, 0, 2), 11);
        due.is("turned to short", x.turned(0, 7, 0, 0), 11);
        // 1 as short: the same way
        due.is("turned 1", x.turned(0, 7, 1, 0), 30);
        // 2 without care as cheap: by road 2 for nothing, instead of 7
        due.is("turned 2", x.turned(0, 7, 2, 1), -3);
        due.is("kind 3", x.turned(0, 7, 0, 3), NO_SUM);
        due.is("kind -1", x.turned(0, 7, 0, -1), NO_SUM);
        due.is("person 3", x.turned(0, 7, 3, 0), NO_SUM);
        due.is("person NONE", x.turned(0, 7, NONE, 0), NO_SUM);
        due.is("errands 8", x.turned(0, 8, 0, 0), NO_SUM);
        due.is("regret 0", x.regret(0, 7, 0), 0);
        due.is("regret 2", x.regret(0, 7, 2), 1);
        due.is("regret 3", x.regret(0, 7, 3), NONE);
        due.is("regret of errands 8", x.regret(0, 8, 0), NONE);
        due.is("sooner", x.sooner(0, 7), 4);
        due.is("sooner of none", x.sooner(0, 0), 0);
        due.is("sooner of errands 8", x.sooner(0, 8), NONE);
        due.is("rests", x.rests(0, 7, false), 1);
        due.is("kinds", x.rests(0, 7, true), 2 + 3 * 1 + 9 * 1);
        due.is("kinds of none", x.rests(0, 0, true), 2 + 3 * 1 + 9 * 0);
        due.is("rests of none", x.rests(0, 0, false), 0);
        due.is("rests of errands 8", x.rests(0, 8, true), NONE);
        due.is("rests of no town", x.rests(1, 0, false), NONE);
        due.is("the town is as it was", x.person(0, 2, 2), 0);
    }

    private static void turnsWithoutEnd() {
        LastWalker x = told("places 2;road 0 1 3 6;road 0 1 3 4;own1 2;short0 5;errand 1 1 0 88;errand 1 1 4 35;errand 0 0 7 86;"
                + "errand 1 0 16 5;has 1 0;noon 52;busy 0 3 85;busy 0 5 42;busy 1 2 4;busy 1 5 29;");
        due.is("20 are not enough", x.rests(0, 15, false), NONE);
        due.is("but there are kinds", x.rests(0, 15, true), 6);
    }

    // 27
    private static void freeRoad() {
        String town = "road 0 1 12 0;road 0 1 9 50;cheap 0 1;short 0 0;has 1 1;errand 0 1 5 1;";
        due.is("free", told(town).free(0, 1), 1);
        due.is("free of none", told(town).free(0, 0), NONE);
        due.is("nothing below", told(TOWN).free(0, 7), NONE);
        due.is("the least of two", told("road 0 1 9 50;" + town.replace("has 1 1", "has 1 0;has 1 2").replace("road 0 1 9 50;cheap", "road 0 1 9 60;cheap"))
                .free(0, 1), 0);
        due.is("errands 2", told(town).free(0, 2), NONE);
        due.is("no town", told(town).free(1, 0), NONE);
    }

    // 28 to 31
    private static void needsAndPlaces() {
        LastWalker x = told("places 6;road 0 1 5 1;road 1 2 5 1;road 1 2 9 1;road 3 4 2 1;own 0 1;own 3 1;own 0 1;"
                + "errand 0 2 0 1;errand 0 0 0 1;errand 0 3 0 1;errand 1 4 0 1;errand 1 4 0 1;");
        due.is("needs 0", x.needs(0, 0), 1);
        due.is("needs 1", x.needs(0, 1), 0);
        due.is("needs 2", x.needs(0, 2), 0);
        due.is("needs 3", x.needs(0, 3), 24);
        due.is("bridges", x.needs(0, NONE), 9);
        due.is("needs 4", x.needs(0, 4), NONE);
        due.is("needs -2", x.needs(0, -2), NONE);
        due.is("needs of no town", x.needs(1, 0), NONE);
        due.is("live 0: nowhere", x.live(0, 0, false), NONE);
        due.is("live 0: much", x.live(0, 0, true), NONE);
        due.is("live 1", x.live(0, 1, false), 4);
        due.is("live 1: much", x.live(0, 1, true), 0);
        due.is("live 2, without errands", x.live(0, 2, false), 0);
        due.is("live 3", x.live(0, 3, false), NONE);
        due.is("live of no town", x.live(1, 0, false), NONE);
        LastWalker y = told("places 3;road 0 1 5 1;road 1 2 5 1;own 0 1;errand 0 2 0 1;errand 0 0 0 1;");
        due.is("live, of several the least", y.live(0, 0, false), 0);
        due.is("live: much", y.live(0, 0, true), 10);
        int[] left = {3, 3, 3, 4, 4, 5};
        for (int p = 0; p < 6; p++) due.is("left " + p, x.left(0, p), left[p]);
        due.is("left 6", x.left(0, 6), NONE);
        due.is("left -1", x.left(0, -1), NONE);
        due.is("left of no town", x.left(1, 0), NONE);
        due.is("minutes", x.minutes(0, 0, 2), 10);
        due.is("minutes, asked first", told("places 3;road 0 1 5 1;road 1 2 5 1;").minutes(0, 2, 0), 10);
        due.is("minutes back", x.minutes(0, 2, 0), 10);
        due.is("minutes to itself", x.minutes(0, 5, 5), 0);
        due.is("minutes, no way", x.minutes(0, 0, 3), NONE);
        due.is("minutes to 6", x.minutes(0, 0, 6), NONE);
        due.is("minutes from -1", x.minutes(0, -1, 0), NONE);
        due.is("minutes of no town", x.minutes(1, 0, 0), NONE);
    }

    // 32
    private static void days() {
        LastWalker x = told(TOWN);
        due.is("one day as all", x.days(0, 5, 1, 0), 45);
        due.is("paid", x.days(0, 5, 1, 1), 17);
        due.is("needless", x.days(0, 5, 1, 3), 0);
        due.is("road 0", x.days(0, 5, 1, 10), 2);
        due.is("road 2", x.days(0, 5, 1, 12), NONE);
        due.is("0", x.days(0, 5, 1, 30), 4);
        due.is("2", x.days(0, 5, 1, 32), -4);
        // On the second day roads 0 and 1 are 2's: 0 pays 7 (22 for 20 by road 2: he goes there).
        due.is("two days", x.days(0, 5, 2, 0), 45 + 20 + 15 + 15);
        due.is("thirty days", x.days(0, 5, 30, 0) > 30 * 45, true);
        for (int w : new int[] {-1, 2, 4, 9, 13, 29, 33}) due.is("days what " + w, x.days(0, 5, 1, w), NO_SUM);
        due.is("no days", x.days(0, 5, 0, 0), NO_SUM);
        due.is("31 days", x.days(0, 5, 31, 0), NO_SUM);
        due.is("no town", x.days(1, 5, 1, 0), NO_SUM);
        // Seed 0: x is 12345, then 3554416254; shifted right by 16: 0, 54236.
        LastWalker y = told("places 2;road 0 1 7 0;own 0 0;own 0 0;errand 0 1 0 1;errand 1 1 0 36;");
        due.is("0 is below 1, 36 is not below 36", y.days(0, 0, 1, 0), 7);
        LastWalker z = told("places 2;road 0 1 7 0;own 0 0;own 0 0;errand 0 1 0 0;errand 1 1 0 37;");
        due.is("0 is not below 0, 36 is below 37", z.days(0, 0, 1, 0), 7);
    }

    // 33 to 35, 38
    private static void wholes() {
        LastWalker x = told(TOWN);
        int[] visits = {3, 3, 0};
        int[] earns = {8, 9, 0};
        for (int r = 0; r < 3; r++) {
            due.is("visits " + r, x.visits(0, 7, r, false), visits[r]);
            due.is("earns " + r, x.visits(0, 7, r, true), earns[r]);
        }
        due.is("visits 3", x.visits(0, 7, 3, false), NONE);
        due.is("visits of errands 8", x.visits(0, 8, 0, false), NONE);
        due.is("idle", x.whole(0, 7, 0), 4);
        due.is("idle of none", x.whole(0, 0, 0), 7);
        due.is("late", x.whole(0, 7, 1), 105);
        due.is("waits", x.whole(0, 7, 2), 0);
        due.is("whole 4", x.whole(0, 7, 4), NONE);
        due.is("whole -1", x.whole(0, 7, -1), NONE);
        due.is("whole of errands 8", x.whole(0, 8, 0), NONE);
        due.is("whole of no town", x.whole(1, 0, 0), NONE);
        // Without 1's errand 2 pays 0 seven pennies.
        due.is("still 1", x.still(0, 7, 1), 0);
        due.is("still 2", x.still(0, 7, 2), -3);
        due.is("still 0: 1 pays 2, 2 pays 1", x.still(0, 7, 0), 0);
        due.is("still 3", x.still(0, 7, 3), NO_SUM);
        due.is("still of errands 8", x.still(0, 8, 0), NO_SUM);
        due.is("without 0", x.without(0, 7, 0), 0);
        due.is("without 3", x.without(0, 7, 3), NO_SUM);
        due.is("without of errands 8", x.without(0, 8, 0), NO_SUM);
        // Without 0, who makes road 1 his, the cheap one walks 9 minutes and not 12.
        LastWalker y = told("road 0 1 12 0;road 0 1 9 50;short 0 0;cheap 0 1;errand 0 1 0 1;errand 1 1 1 1;");
        due.is("without", y.without(0, 3, 0), -3);
    }

    // 36, 37
    private static void housesAndGifts() {
        LastWalker x = told(TOWN);
        due.is("house 0", x.house(0, 7, 0, false), 2);
        due.is("house 3", x.house(0, 7, 3, false), NONE);
        due.is("house of errands 8", x.house(0, 8, 0, false), NONE);
        due.is("house without errands: the least", x.house(0, 0, 2, false), 0);
        // Road 1 as his saves 0 three pennies.
        due.is("gift 0", x.house(0, 7, 0, true), 1);
        due.is("gift of none", x.house(0, 0, 0, true), NONE);
        due.is("gift by none", told(TOWN + "none;").house(0, 7, 0, true), NONE);
        due.is("gift of person -1", x.house(0, 7, -1, true), NONE);
        // Errand 1 ahead of errand 0 does not go: 0 is the lower number; at 0 it pays 7 still.
        due.is("moved 1 to 0", x.moved(0, 7, 1, 0), 30);
        // Errand 0 behind all: 1 pays 3, 2 pays 7, 0 pays 7 or goes by road 2: 20.
        due.is("moved 0 to 359", x.moved(0, 7, 0, 359), 20);
        due.is("moved to where it is", x.moved(0, 7, 0, 0), 11);
        due.is("moved to 360", x.moved(0, 7, 0, 360), NO_SUM);
        due.is("moved to -1", x.moved(0, 7, 0, -1), NO_SUM);
        due.is("moved, none of them", x.moved(0, 6, 0, 5), NO_SUM);
        due.is("moved errand 3", x.moved(0, 7, 3, 5), NO_SUM);
        due.is("moved errand -1", x.moved(0, 7, -1, 5), NO_SUM);
        due.is("moved of errands 8", x.moved(0, 15, 0, 5), NO_SUM);
        due.is("the town is as it was", x.errand(0, 0, 2), 0);
    }

    // 41, 42
    private static void images() {
        LastWalker x = told(TOWN, DAY);
        due.is("spoilt", Due.take(x, "places 1;", 0, NONE), NONE);
        Due.tape(x, "places 2;");
        due.is("image 0", x.image(0), true);
        due.is("image 3", x.image(3), false);
        due.is("image -1", x.image(-1), false);
        due.is("again 1", x.again(1), false);
        due.is("again 3", x.again(3), false);
        due.is("again -1", x.again(-1), false);
        due.is("in its place", x.text(0, 0), 0);
        due.is("a second day", x.text(1, NONE), 1);
        due.is("places", x.town(0, 0), 2);
        due.is("image 2", x.image(2), true);
        due.is("again 0", x.again(0), true);
        due.is("places", x.town(0, 0), 3);
        due.is("days", x.count(1), 1);
        due.is("fault", x.fault(0), 2);
        due.is("place", x.fault(1), 7);
        due.is("the tape", x.end(9), 9);
        due.is("is as it was", x.text(0, NONE), 1);
        due.is("places", x.town(1, 0), 2);
        due.is("again 2", x.again(2), true);
        due.is("towns", x.count(0), 1);
        due.is("days", x.count(1), 2);
        due.is("moves", x.move(1, NONE, 0), 0);
        due.is("fault", x.fault(0), 0);
        due.is("places", x.town(0, 0), 2);
        due.is("a tape", x.feed(0x6c617374, 0x3b202020, 0, 0, 0), 20);
        due.is("image 1", x.image(1), true);
        due.is("the tape is no more", x.end(0), 0);
        due.is("in the place of day 0", Due.take(x, "wait 7;go 3 4;", 1, 0), 0);
        due.is("in the place of day 1", Due.take(x, "wait 8;", 1, 1), 1);
        due.is("again 1", x.again(1), true);
        due.is("day 0", x.move(0, NONE, 0), 6);
        due.is("day 0's first", x.move(0, 0, 0), 0);
        due.is("day 1", x.move(1, NONE, 0), 0);
        due.is("its tape", x.end(5), 5);
        due.is("is \"last;\"", x.text(0, 0), 0);
        due.is("image 2 is still there", x.again(2), true);
        due.is("image 0 anew", x.image(0), true);
        due.is("again 0", x.again(0), true);
        due.is("places", x.town(0, 0), 2);
    }
}
