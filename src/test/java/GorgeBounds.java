/** Each sentence of ==== 5, ==== 6 and of promises 22 to 28 that names a boundary: just inside it, at it, just beyond it. */
public final class GorgeBounds extends Checks {
    private static final String NARROW = "cell depth 40 bend 0 flow 0 narrow;";
    private static final String WIDE = "cell depth 40 bend 0 flow 0;";
    private static final int DAY = 5;

    public static void main(String[] args) {
        gaps();
        gapsAreRefused();
        firstNarrowToLast();
        noGorge();
        readyBehindTheCellsAhead();
        eightAtMost();
        onlyThoseThatAreLet();
        beginsAsTheOtherEnds();
        gapBehindTheOther();
        endsNoSooner();
        allAheadInTheOrder();
        leastWaiting();
        readySooner();
        firstOfLikeOnes();
        plansOfOthers();
        planAnswers();
        goesAnswers();
        sightingsThatCanBe();
        sightingsThatCantBe();
        eightOnADay();
        sixtyInAll();
        unsight();
        unsightIsRefused();
        blurAroundTheBeginning();
        blurWithoutAGorge();
        kindsOfSightings();
        waysOfSightings();
        anotherForEach();
        couldInAnyReading();
        readingsAnswers();
        couldAnswers();
        finish();
    }

    /** On DAY SHIPS ask to go, those of a length below 0 south; these went north on day 0. */
    private static StraitHouse meet(String cells, int gap, int... lengths) {
        StraitHouse x = house(cells + "land a;", "may peace if 1;");
        if (gap != 10) {
            x.gaps(gap, 30);
        }
        for (int i = 0; i < lengths.length; i++) {
            x.ship(0, 1, Math.abs(lengths[i]), 1, 0, 0, 0, false);
            if (lengths[i] < 0) {
                x.ask(i, 0, true, 0);
            }
        }
        for (int i = 0; i < lengths.length; i++) {
            x.ask(i, DAY, lengths[i] > 0, 0);
        }
        return x;
    }

    private static void dueBegins(String what, StraitHouse x, int... begins) {
        due(what + ": how many", x.plan(0, DAY, 0, 0), begins.length);
        for (int n = 0; n < begins.length; n++) {
            due(what + ": the beginning of " + n, x.goes(0, DAY, n, 2, 0), begins[n]);
        }
    }

    private static void duePlaces(String what, StraitHouse x, int... places) {
        for (int n = 0; n < places.length; n++) {
            due(what + ": the place of " + n, x.goes(0, DAY, n, 4, 0), places[n]);
        }
    }

    // ---- promise 22 ----

    private static void gaps() {
        says("GAP (1 .. 60; 10 at first), BLUR (0 .. 200; 30 at first): true");
        StraitHouse x = house(NARROW + "land a;", "may peace if 1;");
        x.ship(0, 1, 10, 1, 0, 0, 0, false);
        x.ship(0, 1, 10, 1, 0, 0, 0, false);
        x.ask(0, DAY, true, 0);
        x.ask(1, DAY, true, 0);
        dueBegins("at first", x, 0, 10);
        x.sight(DAY, 40, true, -1);
        due("30 at first", x.could(0, 0, 0), 2);
        for (int gap : new int[] {1, 2, 59, 60}) {
            due("gap " + gap, x.gaps(gap, 0), true);
            dueBegins("gap " + gap, x, 0, gap);
        }
        x = meet(NARROW, 10, 50);
        x.sight(DAY, 30, true, -1);
        due("30 minutes are no more", x.could(0, 0, 0), 1);
        x = meet(NARROW, 10, 50);
        x.sight(DAY, 31, true, -1);
        due("31 minutes are more", x.could(0, 0, 0), 0);
        for (int blur : new int[] {0, 1, 199, 200}) {
            x = meet(NARROW, 10, 50);
            x.sight(DAY, blur, true, -1);
            due("blur " + blur, x.gaps(1, blur), true);
            due("no more than " + blur, x.could(0, 0, 0), 1);
            x.unsight(0);
            x.sight(DAY, blur + 1, true, -1);
            due("more than " + blur, x.could(0, 1, 0), 0);
        }
    }

    private static void gapsAreRefused() {
        says("false, doing nothing, if one can't be");
        for (int gap : new int[] {0, -1, 61, 62, MIN, MAX}) {
            refused("gaps(" + gap + ", 5)", 0, x -> number(x.gaps(gap, 5)));
        }
        for (int blur : new int[] {-1, -2, 201, 202, MIN, MAX}) {
            refused("gaps(40, " + blur + ")", 0, x -> number(x.gaps(40, blur)));
        }
        refused("gaps(0, 201)", 0, x -> number(x.gaps(0, 201)));
        StraitHouse x = meet(NARROW, 7, 50, 50);
        x.sight(DAY, 30, true, -1);
        x.gaps(8, 23);
        due("refused", x.gaps(9, 201), false);
        dueBegins("the gap stays", x, 0, 8);
        due("refused", x.gaps(61, 22), false);
        due("the blur stays", x.could(0, 0, 0), 2);
    }

    // ---- ==== 5 ----

    private static void firstNarrowToLast() {
        says("THE GORGE: the CELLS from the first narrow one to the last one");
        for (int first = 0; first < 20; first += 3) {
            for (int last = first; last < 20; last += 2) {
                StringBuilder cells = new StringBuilder();
                for (int i = 0; i < 20; i++) {
                    cells.append(i == first || i == last || i == (first + last) / 2 ? NARROW : WIDE);
                }
                StraitHouse x = meet(cells.toString(), 10, 50);
                due("ready north", x.goes(0, DAY, 0, 1, 0), 6 * first);
                due("ends north", x.goes(0, DAY, 0, 3, 0), 6 * (last + 1));
                x = meet(cells.toString(), 10, -50);
                due("ready south", x.goes(0, DAY, 0, 1, 0), 6 * (19 - last));
                due("ends south", x.goes(0, DAY, 0, 3, 0), 6 * (20 - first));
            }
        }
    }

    private static void noGorge() {
        says("(none: no GORGE)");
        for (String cells : new String[] {"", WIDE, times(WIDE, 20)}) {
            StraitHouse x = meet(cells, 10, 400, -10, 50);
            due("many", x.plan(0, DAY, 0, 0), 3);
            due("no waiting", x.plan(0, DAY, 1, 0), 0);
            due("0 without", x.plan(0, DAY, 2, 0), 0);
            for (int n = 0; n < 3; n++) {
                due("its fact", x.goes(0, DAY, n, 0, 0), 1 + n);
                for (int what = 1; what <= 3; what++) {
                    due("(Without GORGE 1 to 3 are 0.)", x.goes(0, DAY, n, what, 0), 0);
                }
                due("its place", x.goes(0, DAY, n, 4, 0), n);
            }
            due("none such", x.goes(0, DAY, 3, 1, 0), -1);
        }
    }

    private static void readyBehindTheCellsAhead() {
        says("come to its near end READY: behind the MINUTES of all CELLS ahead of it (from minute 0 on)");
        String cells = "cell depth 40 bend 0 flow 9;cell depth 40 bend 0 back 2;cell depth 40 bend 0 flow 3 narrow;cell depth 40 bend 0 back 9;cell depth 40 bend 0 flow 5;";
        StraitHouse x = meet(cells, 10, 50, -50, 400, -400);
        int[] ready = {1 + 8, 1 + 11, 1 + 12, 1 + 15};
        for (int n = 0; n < 4; n++) {
            due("ready", x.goes(0, DAY, n, 1, 0), ready[n]);
        }
        int[] through = {3, 9, 7, 13};
        for (int n = 0; n < 4; n++) {
            due("in their MINUTES of its CELLS together", x.goes(0, DAY, n, 3, 0) - x.goes(0, DAY, n, 2, 0), through[n]);
        }
        x = meet(NARROW + WIDE, 10, 400);
        due("none ahead of it: 0", x.goes(0, DAY, 0, 1, 0), 0);
        x = meet(WIDE + NARROW, 10, -400);
        due("none ahead of it: 0", x.goes(0, DAY, 0, 1, 0), 0);
        x = meet(times("cell depth 40 bend 0 back 9;", 19) + "cell depth 40 bend 0 back 9 narrow;", 10, 400);
        due("the longest way", x.goes(0, DAY, 0, 1, 0), 19 * 19);
        due("its end", x.goes(0, DAY, 0, 3, 0), 20 * 19);
    }

    private static void eightAtMost() {
        says("On a day those that are LET (8 at most are taken, the first by numbers)");
        for (int many = 7; many <= 10; many++) {
            int[] lengths = new int[many];
            for (int i = 0; i < many; i++) {
                // The last ones would wait less than the first.
                lengths[i] = i < 8 ? 400 : 10;
            }
            StraitHouse x = meet(NARROW, 10, lengths);
            int taken = Math.min(8, many);
            due("how many of " + many, x.plan(0, DAY, 0, 0), taken);
            due("waiting", x.plan(0, DAY, 1, 0), 10 * taken * (taken - 1) / 2);
            for (int n = 0; n < 8; n++) {
                due("the first by numbers", x.goes(0, DAY, n, 0, 0), n < many ? n : -1);
            }
            due("no ninth", x.goes(0, DAY, 8, 0, 0), -1);
            due("the last one is let", x.reason(0, many - 1, 0), 0);
            x.sight(DAY, 0, true, -1);
            x.gaps(1, 200);
            due("may be any of those taken", x.could(0, 0, 0), (1 << taken) - 1);
        }
    }

    private static void onlyThoseThatAreLet() {
        says("On a day those that are LET");
        StraitHouse x = house(NARROW + "land a;", "may peace if tons > 0;", "");
        for (int ship = 0; ship < 12; ship++) {
            x.ship(0, ship % 3, 50, 1, 0, 0, 0, false);
            x.ask(ship, DAY, true, 0);
            x.ask(ship, DAY + 1, true, 0);
        }
        x.turn(DAY, 0);
        int[] facts = {2, 4, 8, 10, 14, 16, 20, 22};
        due("8 of 12", x.plan(0, DAY, 0, 0), 8);
        for (int n = 0; n < 8; n++) {
            due("its number", x.goes(0, DAY, n, 0, 0), facts[n]);
        }
        due("none of the next day", x.plan(0, DAY + 1, 0, 0), 0);
        due("none of the day before", x.plan(0, DAY - 1, 0, 0), 0);
        due("none by an empty shelf", x.plan(1, DAY, 0, 0), 0);
        x.later(1);
        x.untell(2);
        due("7 are left", x.plan(0, DAY, 0, 1), 7);
        due("the first of them", x.goes(0, DAY, 0, 0, 1), 4);
        due("on the next day the one that was not there", x.goes(0, DAY + 1, 0, 0, 1), 3);
    }

    private static void beginsAsTheOtherEnds() {
        says("Two that go unlike ways are never both in it (one may begin as the other ends)");
        StraitHouse x = meet(NARROW, 1, 50, -50);
        dueBegins("north, south", x, 0, 6);
        due("waiting", x.plan(0, DAY, 1, 0), 6);
        due("the last end", x.plan(0, DAY, 2, 0), 12);
        x = meet(NARROW, 60, -50, 50);
        dueBegins("no gap between unlike ways", x, 0, 6);
        x = meet(NARROW + WIDE, 1, 50, -50);
        dueBegins("ready as the other ends", x, 0, 6);
        due("no waiting", x.plan(0, DAY, 1, 0), 0);
        x = meet(NARROW + "cell depth 40 bend 0 flow 1;", 1, 150, -100);
        dueBegins("ready behind the other's end", x, 0, 8);
        due("no waiting", x.plan(0, DAY, 1, 0), 0);
        x = meet(NARROW + "cell depth 40 bend 0 back 1;", 1, 50, -50);
        dueBegins("ready one minute ahead of the other's end", x, 0, 6);
        due("one waits", x.plan(0, DAY, 1, 0), 1);
    }

    private static void gapBehindTheOther() {
        says("of two that go the same way the later one begins at least GAP minutes behind the other");
        for (int gap : new int[] {1, 2, 5, 6, 7, 59, 60}) {
            StraitHouse x = meet(NARROW, gap, 50, 50, 50);
            dueBegins("gap " + gap, x, 0, gap, 2 * gap);
            due("waiting", x.plan(0, DAY, 1, 0), 3 * gap);
            due("the last end", x.plan(0, DAY, 2, 0), 2 * gap + 6);
            x = meet(NARROW, gap, -50, -50);
            dueBegins("southward, gap " + gap, x, 0, gap);
        }
        // Ready 3 minutes behind the other.
        for (int gap = 2; gap <= 4; gap++) {
            StraitHouse x = meet(WIDE + NARROW, gap, 50, 350);
            due("ready", x.goes(0, DAY, 1, 1, 0) - x.goes(0, DAY, 0, 1, 0), 3);
            dueBegins("gap " + gap, x, 6, 6 + Math.max(3, gap));
        }
    }

    private static void endsNoSooner() {
        says("and ends no sooner than it");
        // The slow one needs 10 minutes, the fast one 6: behind it, it begins 4 minutes later at least.
        StraitHouse x = meet(NARROW, 4, 400, 50);
        dueBegins("both end at one minute", x, 0, 4);
        duePlaces("the first by number", x, 0, 1);
        due("the same end", x.goes(0, DAY, 1, 3, 0), 10);
        x = meet(NARROW, 3, 400, 50);
        dueBegins("the fast one first waits less", x, 3, 0);
        duePlaces("the fast one first", x, 1, 0);
        x = meet(NARROW, 5, 400, 50);
        dueBegins("the gap is more", x, 0, 5);
        x = meet(times(NARROW, 5), 1, 400, 50);
        dueBegins("the fast one first", x, 1, 0);
        x = meet(times(NARROW, 5), 20, 400, 50);
        dueBegins("50 and 30 minutes: both end at 50", x, 0, 20);
        x = meet(times(NARROW, 5), 19, 400, 50);
        dueBegins("50 and 30 minutes: 20 is more than 19", x, 19, 0);
    }

    private static void allAheadInTheOrder() {
        says("nor, of all ahead of it in the ORDER, of the end of one that goes the other way, or of GAP behind the beginning of one that goes its own way");
        int[] gaps = {11, 12, 13, 60};
        int[] begins = {12, 12, 13, 60};
        for (int i = 0; i < gaps.length; i++) {
            StraitHouse x = meet(NARROW, gaps[i], 50, -50, 50);
            dueBegins("gap " + gaps[i], x, 0, 6, begins[i]);
            duePlaces("gap " + gaps[i], x, 0, 1, 2);
            due("waiting", x.plan(0, DAY, 1, 0), 6 + begins[i]);
        }
        StraitHouse x = meet(NARROW, 1, 50, -50, 50);
        dueBegins("both that go north first", x, 0, 7, 1);
        duePlaces("both that go north first", x, 0, 2, 1);
    }

    private static void leastWaiting() {
        says("PLAN is the ORDER of the least WAITING (beginning less READY, of all together)");
        // 7 short ones go south, one long one north: it goes last.
        StraitHouse x = meet(NARROW, 1, 400, -50, -50, -50, -50, -50, -50, -50);
        dueBegins("one for seven", x, 12, 0, 1, 2, 3, 4, 5, 6);
        due("waiting", x.plan(0, DAY, 1, 0), 12 + 21);
        due("the last end", x.plan(0, DAY, 2, 0), 22);
        x = meet(NARROW, 1, 50);
        due("one alone waits for none", x.plan(0, DAY, 1, 0), 0);
        x = meet(WIDE + NARROW, 60, 50);
        due("ready is no waiting", x.plan(0, DAY, 1, 0), 0);
        x = meet(NARROW, 60, 50, 50, 50, 50, 50, 50, 50, 50);
        due("8 with the greatest gap", x.plan(0, DAY, 1, 0), 60 * 28);
        due("the last end", x.plan(0, DAY, 2, 0), 426);
    }

    private static void readySooner() {
        says("not ahead of its READY");
        // All need 1 minute in THE GORGE; the first by number comes to it last.
        String quick = "cell depth 40 bend 0 flow 9 narrow;";
        StraitHouse x = meet(WIDE + quick, 10, 400, 50);
        dueBegins("ready at 10 and 6", x, 16, 6);
        duePlaces("ready at 10 and 6", x, 1, 0);
        due("waiting", x.plan(0, DAY, 1, 0), 6);
        x = meet(WIDE + quick, 4, 400, 50);
        dueBegins("as ready as the gap wants", x, 10, 6);
        due("no waiting", x.plan(0, DAY, 1, 0), 0);
        x = meet(WIDE + quick, 5, 400, 50);
        dueBegins("one minute less", x, 11, 6);
        due("one waits", x.plan(0, DAY, 1, 0), 1);
        x = meet(WIDE + quick, 3, 50, 400, 50, 400);
        dueBegins("two of each", x, 6, 12, 9, 15);
    }

    private static void plansOfOthers() {
        says("Of the PLAN of a day (by a SHELF, as known at k)");
        StraitHouse x = house(NARROW + "land a;", "may peace if 1;", "may peace if tons > 1;", "may peace if tons > 2;");
        for (int ship = 0; ship < 4; ship++) {
            x.ship(0, ship, 10, 1, 0, 0, 0, false);
            x.ask(ship, DAY, true, 0);
            x.later(1);
        }
        int[] shelves = {0, 1, 0, 2, 1, 3, 0, 2, 0, 3, 1, 1};
        int[] many = {4, 2, 4, 1, 2, 0, 4, 1, 4, 0, 2, 2};
        for (int i = 0; i < shelves.length; i++) {
            due("by " + shelves[i], x.plan(shelves[i], DAY, 0, 4), many[i]);
            due("by " + shelves[i], x.plan(shelves[i], DAY, 1, 4), 10 * many[i] * (many[i] - 1) / 2);
            due("by " + shelves[i] + " on another day", x.plan(shelves[i], DAY + 1, 0, 4), 0);
            due("by " + shelves[i] + " as known at 1", x.plan(shelves[i], DAY, 0, 1), shelves[i] == 0 ? 2 : 0);
        }
        for (int k : new int[] {3, 0, 2, -1, 1, 3, 2, 0}) {
            due("as known at " + k, x.plan(0, DAY, 0, k), k + 1);
            due("by another as known at " + k, x.plan(2, DAY, 0, k), k == 3 ? 1 : 0);
            due("the first as known at " + k, x.goes(0, DAY, 0, 0, k), k >= 0 ? 0 : -1);
        }
    }

    private static void firstOfLikeOnes() {
        says("of like ones the first, PASSAGE by PASSAGE (by their places by number among them)");
        StraitHouse x = meet(NARROW, 10, 50, 50, 50, 50, 50, 50, 50, 50);
        duePlaces("all alike", x, 0, 1, 2, 3, 4, 5, 6, 7);
        x = meet(NARROW, 6, -50, 50);
        duePlaces("unlike ways", x, 0, 1);
        x = meet(NARROW, 6, 50, -50);
        duePlaces("unlike ways", x, 0, 1);
        // 11, 8, 7 minutes: [1, 2, 0] and [2, 0, 1] both wait 25.
        x = meet("cell depth 40 bend 0 back 1 narrow;", 9, 400, -350, -250);
        due("waiting", x.plan(0, DAY, 1, 0), 25);
        duePlaces("[1, 2, 0]", x, 2, 0, 1);
        dueBegins("[1, 2, 0]", x, 16, 0, 9);
    }

    // ---- promises 23, 24 ----

    private static void planAnswers() {
        says("Of the PLAN of a day what 0 .. 2. NONE if one can't be.");
        for (int n : new int[] {-1, 4, MIN, MAX}) {
            refused("plan by " + n, -1, x -> x.plan(n, 10, 0, 7));
        }
        for (int n : new int[] {-1, 1000, MIN, MAX}) {
            refused("plan on " + n, -1, x -> x.plan(0, n, 0, 7));
        }
        for (int n : new int[] {-1, 3, 4, MIN, MAX}) {
            refused("plan what " + n, -1, x -> x.plan(0, 10, n, 7));
        }
        StraitHouse x = full();
        for (int day : new int[] {0, 999}) {
            for (int what = 0; what < 3; what++) {
                due("a day without", x.plan(0, day, what, 7), 0);
                due("shelf 3", x.plan(3, day, what, 7), 0);
            }
        }
    }

    private static void goesAnswers() {
        says("Of the n-th PASSAGE of that day what 0 .. 4. NONE if there is none such, or likewise.");
        due("how many", full().plan(0, 10, 0, 7), 2);
        for (int n : new int[] {-1, 2, 3, 7, 8, MIN, MAX}) {
            refused("goes " + n, -1, x -> x.goes(0, 10, n, 0, 7));
            refused("goes " + n, -1, x -> x.goes(0, 10, n, 4, 7));
        }
        for (int n : new int[] {-1, 5, 6, MIN, MAX}) {
            refused("goes what " + n, -1, x -> x.goes(0, 10, 0, n, 7));
        }
        for (int n : new int[] {-1, 4, MIN, MAX}) {
            refused("goes by " + n, -1, x -> x.goes(n, 10, 0, 0, 7));
        }
        for (int n : new int[] {-1, 1000, MIN, MAX}) {
            refused("goes on " + n, -1, x -> x.goes(0, n, 0, 0, 7));
        }
        StraitHouse x = full();
        due("the first", x.goes(0, 10, 0, 0, 7), 0);
        due("the last", x.goes(0, 10, 1, 0, 7), 2);
        due("a day without", x.goes(0, 0, 0, 0, 7), -1);
    }

    // ---- promise 25 ----

    private static void sightingsThatCanBe() {
        says("SIGHTINGS: on a day, a minute (0 .. 1439), north or south, a KIND's number or NONE (NONE .. 5): its number");
        StraitHouse x = new StraitHouse();
        int next = 0;
        for (int day : new int[] {0, 1, 998, 999}) {
            for (int minute : new int[] {0, 1, 1438, 1439}) {
                due("minute " + minute, x.sight(day, minute, minute == 0, -1), next++);
            }
        }
        for (int kind = -1; kind <= 5; kind++) {
            due("kind " + kind, x.sight(500, 7, true, kind), next++);
        }
        due("sightings", x.about(4), 23);
    }

    private static void sightingsThatCantBe() {
        says("NONE, doing nothing, if it can't be");
        for (int n : new int[] {-1, 1000, MIN, MAX}) {
            refused("sight on " + n, -1, x -> x.sight(n, 7, true, -1));
        }
        for (int n : new int[] {-1, 1440, MIN, MAX}) {
            refused("sight at " + n, -1, x -> x.sight(10, n, true, -1));
        }
        for (int n : new int[] {-2, 6, 7, MIN, MAX}) {
            refused("sight of kind " + n, -1, x -> x.sight(10, 7, true, n));
        }
    }

    private static void eightOnADay() {
        says("SIGHTINGS, 8 at most on a day (UNTOLD ones, too)");
        StraitHouse x = new StraitHouse();
        for (int i = 0; i < 8; i++) {
            due("a number", x.sight(3, 0, true, -1), i);
        }
        due("a ninth", x.sight(3, 0, true, -1), -1);
        due("sightings", x.about(4), 8);
        due("the day before", x.sight(2, 0, true, -1), 8);
        due("the day behind", x.sight(4, 0, true, -1), 9);
        due("one is untold", x.unsight(5), true);
        due("a ninth still", x.sight(3, 0, true, -1), -1);
        x.later(1);
        for (int i = 0; i < 8; i++) {
            x.unsight(i);
        }
        due("a ninth still", x.sight(3, 0, false, 5), -1);
        due("sightings", x.about(4), 10);
        due("none of that day counts", x.readings(0, 3, 1), 1);
        due("7 were there", x.readings(0, 3, 0), 0);
    }

    private static void sixtyInAll() {
        says("SIGHTINGS, 60 in all; NONE, doing nothing, if there are 60");
        StraitHouse x = new StraitHouse();
        for (int i = 0; i < 60; i++) {
            due("a number", x.sight(i * 16 + 15, i, true, -1), i);
            if (i % 7 == 0) {
                x.unsight(i);
            }
        }
        due("a 61st", x.sight(0, 0, true, -1), -1);
        due("sightings", x.about(4), 60);
        due("it was not made", x.readings(0, 0, 0), 1);
        due("no sighting 60", x.could(0, 60, 0), -1);
        due("no sighting 60", x.unsight(60), false);
        due("the last one", x.could(0, 59, 0), 0);
        due("it is untold", x.unsight(59), true);
        due("that makes no room", x.sight(0, 0, true, -1), -1);
        due("a new strait does", x.strait() + x.sight(0, 0, true, -1), 0);
    }

    // ---- promise 26 ----

    private static void unsight() {
        says("It is UNTOLD: true");
        StraitHouse x = full();
        due("the first", x.unsight(0), true);
        due("the last", x.unsight(2), true);
        due("it counts no more", x.could(0, 0, 7), -1);
        due("it counted", x.could(0, 0, 6) >= 0, true);
        due("how many stays", x.about(4), 3);
        due("none of the day is left", x.readings(0, 10, 7), 1);
    }

    private static void unsightIsRefused() {
        says("false if it is so already, or there is none such");
        for (int n : new int[] {-1, 1, 3, 59, 60, MIN, MAX}) {
            refused("unsight(" + n + ")", 0, x -> number(x.unsight(n)));
        }
        StraitHouse x = full();
        x.later(5);
        due("already", x.unsight(1), false);
        due("the time of the first untelling stays", x.could(0, 1, 6) >= 0, true);
        due("the time of the first untelling stays", x.could(0, 1, 7), -1);
    }

    // ---- ==== 6 ----

    private static void blurAroundTheBeginning() {
        says("the minute is no more than BLUR from that at which it begins in THE GORGE");
        String long19 = times("cell depth 40 bend 0 back 9;", 19) + NARROW;
        int begins = 19 * 19;
        for (int blur : new int[] {0, 1, 30, 199, 200}) {
            StraitHouse x = meet(long19, 10, 400);
            x.gaps(10, blur);
            due("it begins", x.goes(0, DAY, 0, 2, 0), begins);
            int[] minutes = {begins - blur - 1, begins - blur, begins, begins + blur, begins + blur + 1, 0, 1439};
            for (int i = 0; i < minutes.length; i++) {
                x.sight(DAY, minutes[i], true, -1);
                x.unsight(i - 1);
                boolean near = minutes[i] >= begins - blur && minutes[i] <= begins + blur;
                due("minute " + minutes[i] + ", blur " + blur, x.could(0, i, 0), near ? 1 : 0);
                due("minute " + minutes[i] + ", blur " + blur, x.readings(0, DAY, 0), near ? 1 : 0);
            }
        }
        // It is the beginning, not READY nor the end, that counts.
        StraitHouse x = meet(NARROW, 60, 50, 50);
        x.gaps(60, 0);
        x.sight(DAY, 60, true, -1);
        x.sight(DAY, 66, true, -1);
        due("the beginning of the second", x.could(0, 0, 0), 0);
        x.unsight(1);
        due("the beginning of the second", x.could(0, 0, 0), 2);
    }

    private static void blurWithoutAGorge() {
        says("(without GORGE: from 0)");
        for (int blur : new int[] {0, 1, 30, 200}) {
            StraitHouse x = meet(times(WIDE, 20), 10, 400);
            x.gaps(10, blur);
            x.sight(DAY, blur, true, -1);
            due("minute " + blur, x.could(0, 0, 0), 1);
            x.unsight(0);
            x.sight(DAY, blur + 1, true, -1);
            due("minute " + (blur + 1), x.could(0, 1, 0), 0);
        }
    }

    private static void kindsOfSightings() {
        says("its SHIP's KIND is that one (or NONE is told)");
        StraitHouse x = house("land a;", "kind a is tons = 0;kind b is tons = 1;kind c is tons = 2;kind d is tons = 3;kind e is tons = 4;kind f is tons = 5;may peace if 1;",
                "may peace if 1;");
        for (int ship = 0; ship < 7; ship++) {
            x.ship(0, ship, 10, 1, 0, 0, 0, false);
            x.ask(ship, DAY, true, 0);
        }
        for (int kind = 0; kind < 6; kind++) {
            x.sight(DAY, 0, true, kind);
            due("kind " + kind, x.could(0, kind, 0), 1 << kind);
            due("by a shelf without kinds", x.could(1, kind, 0), 0);
        }
        due("each of them one", x.readings(0, DAY, 0), 1);
        x.sight(DAY, 0, true, -1);
        due("none is told: what is left has none", x.could(0, 6, 0), 64);
        due("one reading", x.readings(0, DAY, 0), 1);
        for (int kind = 0; kind < 6; kind++) {
            x.unsight(kind);
        }
        due("none is told: any", x.could(0, 6, 0), 127);
        due("none is told: any", x.could(1, 6, 0), 127);
        due("seven readings", x.readings(0, DAY, 0), 7);
    }

    private static void waysOfSightings() {
        says("if it goes that way");
        StraitHouse x = meet("", 10, 50, -50, 50, -50);
        x.sight(DAY, 0, true, -1);
        x.sight(DAY, 0, false, -1);
        due("north", x.could(0, 0, 0), 1 + 4);
        due("south", x.could(0, 1, 0), 2 + 8);
        due("readings", x.readings(0, DAY, 0), 4);
    }

    private static void anotherForEach() {
        says("A READING gives each SIGHTING of the day that counts another PASSAGE that it MAY be");
        StraitHouse x = meet("", 10, 50, 50, 50, 50, 50, 50, 50, 50);
        due("no sighting: one reading", x.readings(0, DAY, 0), 1);
        int due = 1;
        for (int i = 0; i < 8; i++) {
            x.sight(DAY, 0, true, -1);
            due *= 8 - i;
            due("sightings " + (i + 1), x.readings(0, DAY, 0), due);
            due("any of 8", x.could(0, i, 0), 255);
        }
        due("8 of 8", due, 40320);
        x.later(1);
        x.untell(3);
        due("8 of 7", x.readings(0, DAY, 1), 0);
        due("none in any reading", x.could(0, 0, 1), 0);
        x.unsight(7);
        due("7 of 7", x.readings(0, DAY, 1), 5040);
        due("any of 7", x.could(0, 0, 1), 127);
        due("another day's do not count", x.readings(0, DAY + 1, 1), 1);
        x.sight(DAY + 1, 0, true, -1);
        due("a sighting without a passage", x.readings(0, DAY + 1, 1), 0);
        due("a sighting without a passage", x.could(0, 8, 1), 0);
        due("that day stays", x.readings(0, DAY, 1), 5040);
    }

    private static void couldInAnyReading() {
        says("COULD of a SIGHTING: the PASSAGES (as bits by places) that it is in any READING");
        // They begin at 0, 10, 20 (by numbers 1, 2, 0, as the first is slow).
        StraitHouse x = meet(times(NARROW, 5), 10, 400, 50, 50);
        dueBegins("begin", x, 20, 0, 10);
        x.gaps(10, 10);
        x.sight(DAY, 20, true, -1);
        due("bits by numbers, not by the order", x.could(0, 0, 0), 1 + 4);
        x.sight(DAY, 10, true, -1);
        due("any", x.could(0, 1, 0), 7);
        due("the first still", x.could(0, 0, 0), 5);
        due("readings", x.readings(0, DAY, 0), 4);
        x.sight(DAY, 0, true, -1);
        due("the third", x.could(0, 2, 0), 2 + 4);
        due("readings", x.readings(0, DAY, 0), 3);
        x.gaps(10, 9);
        due("one each", x.could(0, 0, 0) + 10 * x.could(0, 1, 0) + 100 * x.could(0, 2, 0), 1 + 40 + 200);
        x.unsight(0);
        x.sight(DAY, 0, true, -1);
        due("two of one passage: no reading", x.readings(0, DAY, 0), 0);
        due("two of one passage: none", x.could(0, 1, 0), 0);
    }

    // ---- promises 27, 28 ----

    private static void readingsAnswers() {
        says("In how many READINGS a day's SIGHTINGS can be; NONE if one can't be.");
        for (int n : new int[] {-1, 4, MIN, MAX}) {
            refused("readings by " + n, -1, x -> x.readings(n, 10, 7));
        }
        for (int n : new int[] {-1, 1000, MIN, MAX}) {
            refused("readings on " + n, -1, x -> x.readings(0, n, 7));
        }
        due("day 0, shelf 3", full().readings(3, 0, 7), 1);
        due("day 999, shelf 0", full().readings(0, 999, 7), 1);
    }

    private static void couldAnswers() {
        says("COULD of a SIGHTING; NONE if there is none such, it does not count, or no SHELF.");
        for (int n : new int[] {-1, 3, 59, 60, MIN, MAX}) {
            refused("could of " + n, -1, x -> x.could(0, n, 7));
        }
        for (int n : new int[] {-1, 4, MIN, MAX}) {
            refused("could by " + n, -1, x -> x.could(n, 0, 7));
        }
        refused("could of one that does not count", -1, x -> x.could(0, 1, 7));
        refused("could of one that does not count yet", -1, x -> x.could(0, 0, 2));
        due("by an empty shelf", full().could(3, 0, 7), 0);
    }
}
