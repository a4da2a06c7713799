/** Promises 1 to 5 and the texts and FAULTS of term 1, sentence by sentence. */
final class TextBounds {
    private static final int NONE = LastWalker.NONE;
    private static final int BLANKS = 0x20202020;
    private static final int[] FAR = {Integer.MIN_VALUE, Integer.MAX_VALUE};

    static void test(Sentences s) {
        newObject(s);
        feed(s);
        end(s);
        text(s);
        textRefused(s);
        faultAsked(s);
        townsNumbers(s);
        peopleAndErrands(s);
        hasBusyLaw(s);
        tokens(s);
        grammar(s);
        laterOnes(s);
        faultOfForm(s);
        faultOfNumbers(s);
        faultOfMany(s);
        faultOfPlaces(s);
        manyTowns(s);
    }

    // ----------------------------------------------------------- helpers

    private static void fault(Sentences s, int sort, String text, int fault, int place) {
        LastWalker x = new LastWalker();
        String call = "sort " + sort + " \"" + text + "\"";
        s.is(call, Due.take(x, text, sort, NONE), fault == 0 ? 0 : NONE);
        s.is(call + " fault", x.fault(0), fault);
        s.is(call + " place", x.fault(1), place);
        s.is(call + " count", x.count(sort), fault == 0 ? 1 : 0);
    }

    /** A text with a number for '#': the least and the most stand, those next to them can't be. */
    private static void bounds(Sentences s, int sort, String text, int least, int most) {
        int place = text.indexOf('#');
        fault(s, sort, text.replace("#", "" + least), 0, NONE);
        fault(s, sort, text.replace("#", "" + most), 0, NONE);
        if (least > 0) fault(s, sort, text.replace("#", "" + (least - 1)), 2, place);
        fault(s, sort, text.replace("#", "" + (most + 1)), most == 999 ? 1 : 2, place);
        if (most < 999) fault(s, sort, text.replace("#", "999"), 2, place);
    }

    private static int feedBlanks(LastWalker x) {
        return x.feed(BLANKS, BLANKS, BLANKS, BLANKS, BLANKS);
    }

    private static LastWalker withBlanks(int feeds) {
        LastWalker x = new LastWalker();
        for (int i = 0; i < feeds; i++) feedBlanks(x);
        return x;
    }

    // ------------------------------------------------------ promises 1 to 5

    private static void newObject(Sentences s) {
        LastWalker told = s.told("places 5;", "wait 1;");
        told.image(0);
        LastWalker x = new LastWalker();
        s.promise(1, "No TOWNS, DAYS");
        s.is("count(0)", x.count(0), 0);
        s.is("count(1)", x.count(1), 0);
        s.is("town(0, 0)", x.town(0, 0), NONE);
        s.is("move(0, NONE, 0)", x.move(0, NONE, 0), -2);
        s.is("the tape", x.end(1), NONE);
        s.promise(1, "no images");
        for (int k = 0; k < 3; k++) s.is("again(" + k + ")", x.again(k), false);
    }

    private static void feed(Sentences s) {
        s.promise(2, "twenty bytes come behind it, of each number the highest first: how many it has");
        for (int place = 0; place < 20; place++) {
            // A byte that is in no token, of each of the twenty: its place is told by the fault.
            int[] five = {BLANKS, BLANKS, BLANKS, BLANKS, BLANKS};
            int shift = 24 - 8 * (place % 4);
            five[place / 4] = five[place / 4] & ~(255 << shift) | (200 + place) << shift;
            LastWalker x = new LastWalker();
            s.is("first", feedBlanks(x), 20);
            s.is("behind it", x.feed(five[0], five[1], five[2], five[3], five[4]), 40);
            s.is("text", x.text(0, NONE), NONE);
            s.is("place of byte " + place, x.fault(1), 20 + place);
        }
        // "go 1 2;wait 3;wait 45" and a further ";": a line goes on from one feed to the next.
        LastWalker y = new LastWalker();
        y.feed(0x676f2031, 0x20323b77, 0x61697420, 0x333b7761, 0x69742034);
        s.is("the second", y.feed(0x353b2020, BLANKS, BLANKS, BLANKS, BLANKS), 40);
        s.is("text", y.text(1, NONE), 0);
        s.is("the last move", y.move(0, 2, 2), 45);

        s.promise(2, "NONE, and nothing comes, if there would be more than 600.");
        LastWalker full = withBlanks(29);
        s.is("up to 600", feedBlanks(full), 600);
        s.is("to 620", full.feed(-1, -1, -1, -1, -1), NONE);
        s.is("no 601st", full.end(601), NONE);
        s.is("600 as they were", full.end(600), 600);
        s.is("of which none was struck", full.text(0, NONE), 0);
        LastWalker x = withBlanks(30);
        x.end(581);
        s.is("to 601", x.feed(-1, -1, -1, -1, -1), NONE);
        s.is("no 582nd", x.end(582), NONE);
        s.is("the 581 are blanks still", x.text(0, NONE), 0);
        LastWalker z = withBlanks(30);
        z.end(580);
        s.is("580 have room", feedBlanks(z), 600);
        s.term(1, "THE TAPE has at most 600 bytes.");
        s.is("600", z.end(600), 600);
        s.is("not 601", feedBlanks(z), NONE);
        LastWalker w = new LastWalker();
        s.is("a text of 600 bytes", Due.take(w, " ".repeat(595) + "none;", 0, NONE), 0);
        s.is("is read to its end", w.town(0, 4), 3);
        String[] ends = {"none", "noon 123", "noon 1234", "nones", ";", "?"};
        int[] places = {600, 600, 596, 595, 599, 599};
        for (int i = 0; i < ends.length; i++) fault(s, 0, " ".repeat(600 - ends[i].length()) + ends[i], 1, places[i]);
    }

    private static void end(Sentences s) {
        s.promise(3, "The tape has its first n bytes alone: n.");
        LastWalker x = new LastWalker();
        Due.tape(x, "last;first;");
        s.is("as many as it has", x.end(11), 11);
        s.is("five", x.end(5), 5);
        s.is("the others are gone", x.end(6), NONE);
        s.is("what comes is behind them", x.feed(0x6e6f6e65, 0x3b202020, BLANKS, BLANKS, BLANKS), 25);
        s.is("text", x.text(0, NONE), 0);
        s.is("none is behind last", x.town(0, 4), 3);
        Due.tape(x, "?");
        s.is("end(0)", x.end(0), 0);
        s.is("nothing is left", x.text(0, NONE), 1);

        // What was behind them is not read, be it that a word or a number went on there.
        LastWalker cut = new LastWalker();
        Due.tape(cut, "noon 789;lasts;");
        cut.end(6);
        s.is("noon 7", cut.text(0, NONE), NONE);
        s.is("its end", cut.fault(1), 6);
        Due.tape(cut, "lasts;lasts;");
        cut.end(4);
        s.is("last", cut.text(0, NONE), NONE);
        s.is("its end", cut.fault(1), 4);
        Due.tape(cut, "first;lasts;");
        cut.end(6);
        s.is("first;", cut.text(0, NONE), 0);

        s.promise(3, "NONE if it has not so many, or n is below 0.");
        LastWalker y = new LastWalker();
        s.is("of an empty tape end(0)", y.end(0), 0);
        s.is("of an empty tape end(1)", y.end(1), NONE);
        Due.tape(y, "none;");
        for (int n : new int[] {6, 20, 600, 601, Integer.MAX_VALUE, -1, -5, Integer.MIN_VALUE}) s.is("end(" + n + ")", y.end(n), NONE);
        s.is("nothing was cut", y.end(5), 5);
        s.is("nothing was cut", y.text(0, NONE), 0);
        s.is("nothing was cut", y.town(0, 4), 3);
    }

    private static void text(Sentences s) {
        s.promise(4, "The tape is taken (and is empty then)");
        LastWalker x = new LastWalker();
        s.is("a town", Due.take(x, "last;", 0, NONE), 0);
        s.is("empty", x.end(1), NONE);
        s.is("a day", Due.take(x, "wait 1;", 1, NONE), 0);
        s.is("empty", x.end(1), NONE);
        s.is("a fault", Due.take(x, "lost;", 0, NONE), NONE);
        s.is("empty", x.end(1), NONE);
        for (int sort = 0; sort <= 2; sort++) {
            s.is("none such", Due.take(x, "last;", sort, 2), -2);
            s.is("empty", x.end(1), NONE);
        }
        s.is("an empty tape is a town too", new LastWalker().text(0, NONE), 0);
        s.is("an empty tape is a day too", new LastWalker().text(1, NONE), 0);

        s.promise(4, "a further one (at NONE), or in the place of one: its number");
        LastWalker y = new LastWalker();
        for (int i = 0; i < 2; i++) s.is("town " + i, Due.take(y, "places " + (5 + i) + ";", 0, NONE), i);
        for (int i = 0; i < 3; i++) s.is("day " + i, Due.take(y, "wait " + (5 + i) + ";", 1, NONE), i);
        for (int i = 1; i >= 0; i--) s.is("in the place of town " + i, Due.take(y, "places " + (7 + i) + ";", 0, i), i);
        for (int i = 2; i >= 0; i--) s.is("in the place of day " + i, Due.take(y, "wait " + (8 + i) + ";wait 1;", 1, i), i);
        for (int i = 0; i < 2; i++) s.is("places", y.town(i, 0), 7 + i);
        for (int i = 0; i < 3; i++) {
            s.is("moves", y.move(i, NONE, 0), 2);
            s.is("minutes", y.move(i, 0, 2), 8 + i);
        }
        s.is("no further towns", y.count(0), 2);
        s.is("no further days", y.count(1), 3);

        s.promise(4, "NONE: a FAULT.");
        s.is("of a further one", Due.take(new LastWalker(), "places 1;", 0, NONE), NONE);
        s.is("of a town", Due.take(y, "places 1;", 0, 0), NONE);
        s.is("of a day", Due.take(y, "wait 0;", 1, 2), NONE);
        s.is("the town is as it was", y.town(0, 0), 7);
        s.is("the day is as it was", y.move(2, 0, 2), 10);
        LastWalker z = new LastWalker();
        Due.take(z, "wait 0;", 1, NONE);
        s.is("it is no day", z.count(1), 0);
        s.is("the next is the first", Due.take(z, "wait 1;", 1, NONE), 0);
    }

    private static void textRefused(Sentences s) {
        s.promise(4, "-2: there is none such");
        LastWalker x = new LastWalker();
        s.is("town 0 of none", x.text(0, 0), -2);
        s.is("day 0 of none", x.text(1, 0), -2);
        Due.town(x, "");
        Due.day(x, "");
        Due.day(x, "");
        for (int at : new int[] {1, 2, -2, FAR[0], FAR[1]}) s.is("town " + at, x.text(0, at), -2);
        for (int at : new int[] {2, 3, -2, FAR[0], FAR[1]}) s.is("day " + at, x.text(1, at), -2);
        s.is("the last town", x.text(0, 0), 0);
        s.is("the last day", x.text(1, 1), 1);
        s.is("as many as there were", x.count(0) + 10 * x.count(1), 21);

        s.promise(4, "there are as many as may be");
        s.is("a second town", x.text(0, NONE), 1);
        s.is("a third town", Due.take(x, "places 9;", 0, NONE), -2);
        s.is("a third day", x.text(1, NONE), 2);
        s.is("a fourth day", Due.take(x, "wait 9;", 1, NONE), -2);
        s.is("two towns", x.count(0), 2);
        s.is("three days", x.count(1), 3);
        s.is("the last town stays", x.town(1, 0), 4);
        s.is("the last day stays", x.move(2, NONE, 0), 0);
        s.is("in the place of the last one", Due.take(x, "places 9;", 0, 1), 1);

        s.promise(4, "or no such sort");
        LastWalker y = s.told("", "");
        for (int sort : new int[] {2, 3, -1, FAR[0], FAR[1]}) {
            s.is("sort " + sort, y.text(sort, NONE), -2);
            s.is("sort " + sort, y.text(sort, 0), -2);
        }
        s.is("nothing came", y.count(0) + 10 * y.count(1), 11);

        s.promise(4, "(no text is read then, FAULT 0)");
        for (int[] call : new int[][] {{0, 1}, {1, 1}, {0, -2}, {2, NONE}, {-1, 0}}) {
            s.is("a fault", Due.take(y, "wait 0;", 1, 0), NONE);
            s.is("a fault", y.fault(0), 2);
            s.is("not read", Due.take(y, "?", call[0], call[1]), -2);
            s.is("fault", y.fault(0), 0);
            s.is("place", y.fault(1), NONE);
        }
        s.is("full, not read", Due.take(x, "?", 0, NONE), -2);
        s.is("fault", x.fault(0), 0);
        s.is("full, not read", Due.take(x, "?", 1, NONE), -2);
        s.is("fault", x.fault(0), 0);
    }

    private static void faultAsked(Sentences s) {
        s.promise(5, "Of the latest text(), what 0: the FAULT, 0 without, 1: its place, NONE without.");
        LastWalker x = new LastWalker();
        s.is("ahead of all texts", x.fault(0), 0);
        s.is("ahead of all texts", x.fault(1), NONE);
        Due.take(x, "  ?", 0, NONE);
        s.is("fault 1", x.fault(0), 1);
        s.is("at 2", x.fault(1), 2);
        Due.tape(x, "last;");
        s.is("a tape is no text", x.fault(0), 1);
        s.is("a tape is no text", x.fault(1), 2);
        s.is("text", x.text(0, NONE), 0);
        s.is("without", x.fault(0), 0);
        s.is("without", x.fault(1), NONE);
        Due.take(x, "?", 0, NONE);
        s.is("at 0", x.fault(1), 0);
        Due.take(x, " wait 0;", 1, NONE);
        s.is("the latest, of a day", x.fault(0), 2);
        s.is("at 6", x.fault(1), 6);

        s.promise(5, "NONE for another what.");
        for (int what : new int[] {2, -1, 10, FAR[0], FAR[1]}) s.is("fault(" + what + ")", x.fault(what), NONE);
    }

    // -------------------------------------------------- what a town can be

    private static void townsNumbers(Sentences s) {
        s.term(1, "PLACES, 2 .. 9 (4 at first), from 0 on");
        bounds(s, 0, "places #;", 2, 9);
        fault(s, 0, "places 0;", 2, 7);
        s.is("4 at first", s.told("").town(0, 0), 4);
        fault(s, 0, "road 3 0 1 1;", 0, NONE);
        fault(s, 0, "road 4 0 1 1;", 4, 13);

        s.term(1, "ROADS, at most 14, from 0 on");
        LastWalker x = s.told("road 0 1 1 5;".repeat(13) + "road 2 3 30 99;");
        s.is("14", x.town(0, 1), 14);
        s.is("road 0", x.road(0, 0, 3), 5);
        s.is("road 13", x.road(0, 13, 3), 99);
        s.is("no road 14", x.road(0, 14, 3), -2);
        fault(s, 0, "road 0 1 1 5;".repeat(15), 3, 182);

        s.term(1, "between two PLACES, either way, MINUTES, 1 .. 30, a PENNY, 0 .. 99");
        bounds(s, 0, "road 0 1 # 0;", 1, 30);
        bounds(s, 0, "road 0 1 1 #;", 0, 99);
        LastWalker y = s.told("places 2;road 0 1 30 99;short 0 0;");
        s.is("there", y.minutes(0, 0, 1), 30);
        s.is("back", y.minutes(0, 1, 0), 30);
        s.is("a way back", y.way(0, NONE, 0, 0, 0, 0, 1, 0, 10), 0);
    }

    private static void peopleAndErrands(Sentences s) {
        s.term(1, "PEOPLE, at most 8, from 0 on: a HOME, CARE, 0 .. 9 (a minute's worth), a KIND: short (0), cheap (1), own (2)");
        LastWalker x = s.told("short 0 0;cheap 1 1;own 2 2;" + "short 3 9;".repeat(5));
        s.is("8", x.town(0, 2), 8);
        for (int p = 0; p < 3; p++) {
            s.is("home", x.person(0, p, 0), p);
            s.is("care", x.person(0, p, 1), p);
            s.is("kind", x.person(0, p, 2), p);
        }
        s.is("7's care", x.person(0, 7, 1), 9);
        s.is("no 8", x.person(0, 8, 1), NONE);
        for (String kind : new String[] {"short", "cheap", "own"}) {
            bounds(s, 0, kind + " 0 #;", 0, 9);
            bounds(s, 0, "places 9;" + kind + " # 0;", 0, 8);
        }

        s.term(1, "ERRANDS, at most 12, from 0 on: one, a PLACE, a MINUTE, 0 .. 359, LIKELY, 0 .. 100 (of 100)");
        LastWalker y = s.told("own 0 1;own 0 1;" + "errand 0 1 0 0;".repeat(11) + "errand 1 3 359 100;");
        s.is("12", y.town(0, 3), 12);
        int[] last = {1, 3, 359, 100};
        for (int w = 0; w < 4; w++) s.is("errand 11", y.errand(0, 11, w), last[w]);
        s.is("no errand 12", y.errand(0, 12, 0), NONE);
        bounds(s, 0, "own 0 1;errand 0 1 # 0;", 0, 359);
        bounds(s, 0, "own 0 1;errand 0 1 0 #;", 0, 100);
    }

    /** What is so "at first" is so in a town that is told behind another one, or in its place. */
    private static void atFirst(Sentences s, LastWalker x, int town) {
        s.is("4 places", x.town(town, 0), 4);
        s.is("last", x.town(town, 4), 0);
        s.is("no noon", x.town(town, 5), 0);
        s.is("nobody's", x.road(town, 0, 4), NONE);
        for (int h = 0; h < 6; h++) s.is("not busy", x.road(town, 0, 10 + h), 0);
        s.is("one road", x.town(town, 1), 1);
        s.is("nobody", x.town(town, 2), 0);
        s.is("no errands", x.town(town, 3), 0);
    }

    private static void hasBusyLaw(Sentences s) {
        s.term(1, "HAS: whose a ROAD is at first (nobody's, if it is not told)");
        LastWalker x = s.told("road 0 1 1 1;road 0 1 1 1;road 0 1 1 1;own 0 1;own 0 1;has 0 1;has 1 2;");
        int[] whose = {NONE, 0, 1};
        for (int r = 0; r < 3; r++) {
            s.is("road " + r, x.road(0, r, 4), whose[r]);
            s.is("state " + r, x.state(0, NONE, 0, 10 + r), whose[r]);
        }

        s.term(1, "BUSY: of a ROAD, an HOUR, 0 .. 5, a CHANCE, 0 .. 100 (of 100; 0 at first)");
        bounds(s, 0, "road 0 1 1 1;busy 0 # 1;", 0, 5);
        bounds(s, 0, "road 0 1 1 1;busy 0 0 #;", 0, 100);
        LastWalker y = s.told("road 0 1 1 1;road 0 1 1 1;busy 1 0 100;busy 1 5 99;");
        for (int h = 0; h < 6; h++) {
            s.is("0 at first", y.road(0, 0, 10 + h), 0);
            s.is("hour " + h, y.road(0, 1, 10 + h), h == 0 ? 100 : h == 5 ? 99 : 0);
        }

        s.term(1, "a LAW: last (0; at first), first (1), noon (2) with a MINUTE, 0 .. 999, none (3)");
        String[] laws = {"last;", "first;", "noon 5;", "none;"};
        for (int law = 0; law < 4; law++) s.is(laws[law], s.told(laws[law]).town(0, 4), law);
        s.is("at first", s.told("").town(0, 4), 0);
        LastWalker w = s.told("places 9;noon 7;road 0 1 1 1;own 0 1;errand 0 1 1 1;has 0 0;busy 0 0 9;busy 0 5 9;");
        Due.take(w, "road 0 1 1 1;", 0, NONE);
        atFirst(s, w, 1);
        Due.take(w, "none;busy 0 0 9;", 0, NONE);
        Due.take(w, "road 0 1 1 1;", 0, 0);
        atFirst(s, w, 0);
        bounds(s, 0, "noon #;", 0, 999);
        s.is("noon 999", s.told("noon 999;").town(0, 5), 999);

        s.term(1, "A DAY has MOVES, at most 40, from 0 on.");
        LastWalker z = s.told("", "wait 7;" + "wait 1;".repeat(38) + "go 7 13;");
        s.is("40", z.move(0, NONE, 0), 40);
        s.is("move 0", z.move(0, 0, 2), 7);
        s.is("move 39", z.move(0, 39, 2), 13);
        s.is("no move 40", z.move(0, 40, 2), -2);
    }

    // ------------------------------------------------------ tokens and lines

    private static void tokens(Sentences s) {
        s.term(1, "TOKENS, as long as they go, blanks (10, 32) between");
        fault(s, 0, "\n \n places \n 2 \n ; \n", 0, NONE);
        fault(s, 0, "places2;", 0, NONE);
        fault(s, 0, "own0 1;errand0 1 1 1;", 0, NONE);
        fault(s, 0, "placestwo;", 1, 0);
        fault(s, 0, "pla ces 2;", 1, 0);
        fault(s, 0, "noon 1 2;", 1, 7);
        for (char c : new char[] {0, 9, 11, 13, 31, 33, 127, 160, 255}) fault(s, 0, "last" + c + ";", 1, 4);

        s.term(1, "words, rows of letters a .. z");
        fault(s, 0, "Last;", 1, 0);
        fault(s, 0, "lasT;", 1, 0);
        fault(s, 0, "lasta;", 1, 0);
        fault(s, 0, "lastz;", 1, 0);
        fault(s, 0, "last`;", 1, 4);
        fault(s, 0, "last{;", 1, 4);
        fault(s, 0, "last@;", 1, 4);
        fault(s, 0, "last[;", 1, 4);
        fault(s, 1, "gone 0 0;", 1, 0);

        s.term(1, "NUMBERS, 1 to 3 digits");
        s.is("one digit", s.told("noon 7;").town(0, 5), 7);
        s.is("two digits", s.told("noon 78;").town(0, 5), 78);
        s.is("three digits", s.told("noon 789;").town(0, 5), 789);
        s.is("with noughts ahead", s.told("noon 007;").town(0, 5), 7);
        s.is("of noughts alone", s.told("noon 000;").town(0, 5), 0);
        fault(s, 0, "noon 0007;", 1, 5);
        fault(s, 0, "noon /;", 1, 5);
        fault(s, 0, "noon :;", 1, 5);
        fault(s, 0, "noon -1;", 1, 5);
        fault(s, 0, "noon 1/;", 1, 6);
        fault(s, 0, "noon 1:;", 1, 6);

        s.term(1, "; one byte");
        fault(s, 0, "last;last;", 0, NONE);
        fault(s, 0, "last;;", 1, 5);
        fault(s, 0, ";", 1, 0);
        fault(s, 1, " ;", 1, 1);
    }

    private static void grammar(Sentences s) {
        s.term(1, "A TOWN's text: {('places' NUMBER | 'road' NUMBER NUMBER NUMBER NUMBER | ('short' | 'cheap' | 'own') NUMBER NUMBER");
        String[] lines = {"places 3", "road 0 1 1 1", "short 0 1", "cheap 0 1", "own 0 1", "errand 0 1 1 1", "has 0 0",
            "busy 0 0 1", "last", "first", "noon 1", "none"};
        String ahead = "road 0 1 1 1;own 0 1;";
        for (String line : lines) {
            fault(s, 0, ahead + line + ";", 0, NONE);
            fault(s, 0, ahead + line, 1, ahead.length() + line.length());
            fault(s, 0, ahead + line + " 1;", 1, ahead.length() + line.length() + 1);
            fault(s, 0, ahead + line + " last;", 1, ahead.length() + line.length() + 1);
            fault(s, 1, line + ";", 1, 0);
            for (int cut = line.lastIndexOf(' '); cut >= 0; cut = line.lastIndexOf(' ', cut - 1)) {
                fault(s, 0, ahead + line.substring(0, cut) + ";", 1, ahead.length() + cut);
            }
        }
        fault(s, 0, "", 0, NONE);

        s.term(1, "(road: two PLACES, 0 .. 8, MINUTES, PENNY");
        bounds(s, 0, "places 9;road # 4 1 1;", 0, 8);
        bounds(s, 0, "places 9;road 4 # 1 1;", 0, 8);
        LastWalker x = s.told("road 1 2 3 4;");
        for (int w = 0; w < 4; w++) s.is("road what " + w, x.road(0, 0, w), w + 1);
        s.term(1, "short, cheap, own: a further one of PEOPLE: HOME, 0 .. 8, CARE");
        bounds(s, 0, "places 9;own # 1;", 0, 8);
        s.term(1, "errand: one, a PLACE, 0 .. 8, MINUTE, LIKELY");
        bounds(s, 0, "places 9;own 0 1;errand 0 # 1 1;", 0, 8);
        s.term(1, "has: one, a ROAD; busy: a ROAD, HOUR, CHANCE");
        LastWalker y = s.told("road 0 1 1 1;road 0 1 1 1;own 0 1;has 0 1;busy 1 2 3;");
        s.is("has", y.road(0, 1, 4), 0);
        s.is("busy", y.road(0, 1, 12), 3);

        s.term(1, "A DAY's text: {('go' NUMBER NUMBER | 'wait' NUMBER) ';'} (one, 0 .. 7, a ROAD, 0 .. 13; minutes, 1 .. 999).");
        bounds(s, 1, "go # 0;", 0, 7);
        bounds(s, 1, "go 0 #;", 0, 13);
        bounds(s, 1, "wait #;", 1, 999);
        fault(s, 1, "", 0, NONE);
        fault(s, 1, "go 0 0", 1, 6);
        fault(s, 1, "go 0;", 1, 4);
        fault(s, 1, "go;", 1, 2);
        fault(s, 1, "go 0 0 0;", 1, 7);
        fault(s, 1, "wait;", 1, 4);
        fault(s, 1, "wait 1 1;", 1, 7);
        fault(s, 0, "go 0 0;", 1, 0);
        fault(s, 0, "wait 1;", 1, 0);
    }

    private static void laterOnes(Sentences s) {
        s.term(1, "Later ones strike, but roads, PEOPLE, ERRANDS, MOVES, which are further ones.");
        LastWalker x = s.told("places 9;places 5;noon 9;noon 8;none;first;road 0 1 2 3;road 0 1 2 3;own 0 1;own 0 1;"
                + "errand 0 1 1 1;errand 0 1 1 1;has 0 0;has 1 0;has 1 1;has 0 1;busy 0 0 9;busy 0 0 8;busy 0 1 7;busy 0 0 0;busy 1 1 5;",
                "go 0 0;go 0 0;wait 1;wait 1;");
        int[] town = {5, 2, 2, 2, 1, 8};
        for (int w = 0; w < 6; w++) s.is("town " + w, x.town(0, w), town[w]);
        s.is("has 0", x.road(0, 0, 4), 1);
        s.is("has 1", x.road(0, 1, 4), 0);
        s.is("busy 0 0", x.road(0, 0, 10), 0);
        s.is("busy 0 1", x.road(0, 0, 11), 7);
        s.is("busy 1 1", x.road(0, 1, 11), 5);
        s.is("moves", x.move(0, NONE, 0), 4);
        s.is("a later last", s.told("noon 3;last;").town(0, 4), 0);
        s.is("a later noon", s.told("none;noon 3;").town(0, 4), 2);
        // A number that can't be is a fault, whatever strikes it later.
        fault(s, 0, "places 1;places 5;", 2, 7);
    }

    // ---------------------------------------------------------------- faults

    private static void faultOfForm(Sentences s) {
        s.term(1, "FAULTS of both, with places (a token's first byte; the end's)");
        fault(s, 0, "  lost;", 1, 2);
        fault(s, 0, "places  11;", 2, 8);
        fault(s, 0, "last", 1, 4);
        fault(s, 0, "last \n ", 1, 7);
        fault(s, 1, "wait", 1, 4);
        fault(s, 1, "wait 1 ", 1, 7);
        fault(s, 0, "own 4 1; ", 4, 9);

        s.term(1, "1 the first byte or token with which no text goes on (a longer row of digits is no token)");
        fault(s, 0, "last;?;lost;", 1, 5);
        fault(s, 0, "last;lost;?", 1, 5);
        fault(s, 0, "noon 1000;?", 1, 5);
        fault(s, 1, "wait 12345;", 1, 5);
        fault(s, 1, "wait 1;1000;", 1, 7);
        fault(s, 0, "road 0 1 2 0003", 1, 11);
        // Whatever numbers can't be, ahead or behind.
        fault(s, 0, "places 1;road 0 0 0 100;?", 1, 24);
        fault(s, 0, "?places 1;", 1, 0);
        fault(s, 0, "places 1", 1, 8);
        fault(s, 1, "wait 0;go 8 14", 1, 14);
        fault(s, 0, "own 0 1;".repeat(9) + "lost", 1, 72);
        fault(s, 0, "own 8 1;lost", 1, 8);
    }

    private static void faultOfNumbers(Sentences s) {
        s.term(1, "If there is none, the first by place, of one place the least: 2 a NUMBER that can't be (as above");
        fault(s, 0, "road 9 9 0 100;", 2, 5);
        fault(s, 0, "road 0 9 0 100;", 2, 7);
        fault(s, 0, "road 0 1 0 100;", 2, 9);
        fault(s, 0, "road 0 1 1 100;", 2, 11);
        fault(s, 0, "places 1;" + "own 0 1;".repeat(9), 2, 7);
        fault(s, 0, "own 0 1;".repeat(9) + "places 1;", 3, 64);
        fault(s, 0, "own 0 1;".repeat(8) + "own 9 10;", 3, 64);
        fault(s, 1, "wait 1;".repeat(40) + "wait 0;", 3, 280);
        fault(s, 1, "wait 1;".repeat(39) + "wait 0;wait 1;", 2, 278);

        s.term(1, "the second PLACE of a road, if it is the first");
        for (int p = 0; p <= 8; p++) fault(s, 0, "places 9;road " + p + " " + p + " 1 1;", 2, 16);
        fault(s, 0, "road 9 9 1 1;", 2, 5);

        s.term(1, "one, a ROAD that no line of the TOWN ahead told");
        fault(s, 0, "errand 0 1 1 1;", 2, 7);
        fault(s, 0, "own 0 1;errand 1 1 1 1;own 0 1;", 2, 15);
        fault(s, 0, "own 0 1;own 0 1;errand 1 1 1 1;", 0, NONE);
        fault(s, 0, "road 0 1 1 1;has 0 0;own 0 1;", 2, 17);
        fault(s, 0, "own 0 1;has 0 0;road 0 1 1 1;", 2, 14);
        fault(s, 0, "own 0 1;road 0 1 1 1;has 1 0;", 2, 25);
        fault(s, 0, "own 0 1;road 0 1 1 1;has 0 1;", 2, 27);
        fault(s, 0, "own 0 1;road 0 1 1 1;has 1 1;", 2, 25);
        fault(s, 0, "busy 0 0 1;road 0 1 1 1;", 2, 5);
        fault(s, 0, "road 0 1 1 1;busy 1 0 1;", 2, 18);
        fault(s, 0, "road 0 1 1 1;".repeat(14) + "own 0 1;has 0 13;busy 13 5 1;", 0, NONE);
        fault(s, 0, "own 0 1;".repeat(8) + "errand 7 1 1 1;", 0, NONE);

        s.term(1, "a line with such a NUMBER tells its road, person, errand, MOVE all the same)");
        // So the first fault is that of the line, not one of a later line that names what it told.
        fault(s, 0, "road 0 1 31 1;busy 0 0 1;", 2, 9);
        fault(s, 0, "own 0 10;errand 0 1 1 1;", 2, 6);
        fault(s, 0, "road 0 0 1 1;".repeat(15), 2, 7);
        fault(s, 1, "wait 0;".repeat(41), 2, 5);
    }

    private static void faultOfMany(Sentences s) {
        s.term(1, "3 a 15th road, a 9th of PEOPLE, a 13th errand, a 41st MOVE, at its first token");
        String roads = "road 0 1 1 1;".repeat(14);
        fault(s, 0, roads, 0, NONE);
        fault(s, 0, roads + " road 0 1 1 1;", 3, 183);
        fault(s, 0, roads + "road 0 0 1 1;", 3, 182);
        String people = "short 0 1;cheap 0 1;own 0 1;own 0 1;short 0 1;cheap 0 1;own 0 1;own 0 1;";
        fault(s, 0, people, 0, NONE);
        for (String ninth : new String[] {"short 0 1;", "cheap 0 1;", "own 0 1;"}) fault(s, 0, people + ninth, 3, people.length());
        String errands = "own 0 1;" + "errand 0 1 1 1;".repeat(12);
        fault(s, 0, errands, 0, NONE);
        fault(s, 0, errands + "errand 0 1 1 1;", 3, 188);
        fault(s, 0, errands + "errand 5 1 1 1;", 3, 188);
        String moves = "go 0 0;wait 1;".repeat(20);
        fault(s, 1, moves, 0, NONE);
        fault(s, 1, moves + "\ngo 0 0;", 3, 281);
        fault(s, 1, moves + "wait 1;", 3, 280);
        // Of two too many the first one's place.
        fault(s, 0, roads + "road 0 1 1 1;road 0 1 1 1;", 3, 182);
        // Each is counted by itself.
        fault(s, 0, roads + people + "errand 7 1 1 1;".repeat(12), 0, NONE);
    }

    private static void faultOfPlaces(Sentences s) {
        s.term(1, "If there is none of these, at the end's place: 4 of a TOWN a PLACE of a road, a HOME, an errand that is not below PLACES.");
        fault(s, 0, "road 3 2 1 1;own 3 1;errand 0 3 1 1;", 0, NONE);
        fault(s, 0, "road 4 0 1 1;", 4, 13);
        fault(s, 0, "road 0 4 1 1;", 4, 13);
        fault(s, 0, "short 4 1;", 4, 10);
        fault(s, 0, "cheap 4 1;", 4, 10);
        fault(s, 0, "own 4 1;", 4, 8);
        fault(s, 0, "own 0 1;errand 0 4 1 1;", 4, 23);
        fault(s, 0, "own 8 1;places 9;", 0, NONE);
        fault(s, 0, "own 8 1;places 8;", 4, 17);
        fault(s, 0, "places 9;own 8 1;places 2; ", 4, 27);
        fault(s, 0, "road 7 8 1 1;road 0 1 1 1;", 4, 26);
        fault(s, 0, "own 8 1;own 0 1;", 4, 16);
        fault(s, 0, "own 0 1;errand 0 8 1 1;errand 0 0 1 1;", 4, 38);
        // Fault 2 is ahead of it, wherever it is.
        fault(s, 0, "own 8 1;noon 5;places 1;", 2, 22);
        fault(s, 0, "own 4 1;" + "own 0 1;".repeat(8), 3, 64);
        // A day names no places.
        fault(s, 1, "go 7 13;", 0, NONE);
    }

    private static void manyTowns(Sentences s) {
        s.term(1, "TOWNS, at most 2, DAYS, at most 3, from 0 on.");
        LastWalker x = new LastWalker();
        int[] due = {0, 1, -2};
        for (int i = 0; i < 3; i++) s.is("town " + i, x.text(0, NONE), due[i]);
        int[] days = {0, 1, 2, -2};
        for (int i = 0; i < 4; i++) s.is("day " + i, x.text(1, NONE), days[i]);
        s.is("town 1", x.town(1, 0), 4);
        s.is("town 2", x.town(2, 0), NONE);
        s.is("day 2", x.move(2, NONE, 0), 0);
        s.is("day 3", x.move(3, NONE, 0), -2);
    }
}
