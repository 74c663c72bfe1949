/** Each sentence of ==== 4 and of promises 12 to 21 that names a boundary: just inside it, at it, just beyond it. */
public final class FactBounds extends Checks {
    // As known at each of these nothing, or all that is told till then, counts.
    private static final int[] TIMES = {MIN, -1, 0, 4, 5, 6, 7, 8, 9, 100000, MAX};
    private static final String OPEN = "cell depth 20 bend 0 flow 0;land ana shore;land bor;land cid;";

    public static void main(String[] args) {
        casesThatCanBe();
        casesThatCantBe();
        passagesThatCanBe();
        passagesThatCantBe();
        twoHundredFacts();
        untell();
        untellIsRefused();
        later();
        laterIsRefused();
        toldAndUntold();
        untoldAtTheSameTime();
        caseOfADay();
        likeCases();
        peaceAnswers();
        byDaysAndNumbers();
        seas();
        firstReasonThatHolds();
        noticeBelow();
        mayLinesOfTheCase();
        caseAsKnown();
        tonsAboveSum();
        tonsAboveEach();
        whoIsCounted();
        southwardNoLimit();
        reasonAnswers();
        whys();
        insideOnADay();
        late();
        insideAnswers();
        dues();
        years();
        finish();
    }

    // ---- promises 12, 13 ----

    private static void casesThatCanBe() {
        says("CASE: from a day (0 .. 999) on it is peace (0), threat (1) or war (2): the FACT's number");
        StraitHouse x = new StraitHouse();
        int next = 0;
        for (int day : new int[] {0, 1, 998, 999}) {
            for (int which = 0; which <= 2; which++) {
                due("turn(" + day + ", " + which + ")", x.turn(day, which), next++);
                due("it is so", x.peace(day, 0), which);
                due("facts", x.about(3), next);
            }
        }
    }

    private static void casesThatCantBe() {
        says("CASE: NONE, doing nothing, if it can't be");
        for (int day : new int[] {-1, 1000, 1001, MIN, MAX}) {
            refused("turn(" + day + ", 1)", -1, x -> x.turn(day, 1));
        }
        for (int which : new int[] {-1, 3, 4, MIN, MAX}) {
            refused("turn(15, " + which + ")", -1, x -> x.turn(15, which));
        }
    }

    private static void passagesThatCanBe() {
        says("PASSAGE: a SHIP asks to go north or south on a day, having given notice so many days ahead (0 .. 99)");
        StraitHouse x = house(OPEN, "may peace if 1; dues 1 + notice;", "may peace if 1; dues 1 + day;");
        x.ship(0, 1, 10, 1, 0, 0, 0, false);
        x.ship(0, 1, 10, 1, 0, 0, 0, false);
        int[][] asks = {{0, 0, 0}, {1, 1, 1}, {0, 998, 98}, {1, 999, 99}};
        for (int i = 0; i < 4; i++) {
            due("ask", x.ask(asks[i][0], asks[i][1], i < 2, asks[i][2]), i);
            due("its notice", x.dues(0, i, 0), 1 + asks[i][2]);
            due("its day", x.dues(1, i, 0), 1 + asks[i][1]);
            due("facts", x.about(3), i + 1);
        }
    }

    private static void passagesThatCantBe() {
        says("PASSAGE: likewise (NONE, doing nothing, if it can't be)");
        for (int ship : new int[] {-1, 3, 19, 20, MIN, MAX}) {
            refused("ask of ship " + ship, -1, x -> x.ask(ship, 10, true, 9));
        }
        for (int day : new int[] {-1, 1000, 1001, MIN, MAX}) {
            refused("ask on day " + day, -1, x -> x.ask(0, day, true, 9));
        }
        for (int notice : new int[] {-1, 100, 101, MIN, MAX}) {
            refused("ask with notice " + notice, -1, x -> x.ask(0, 10, true, notice));
        }
    }

    private static void twoHundredFacts() {
        says("FACTS, 200 at most; NONE, doing nothing, if there are 200");
        StraitHouse x = house(OPEN, "may peace if 1;dues 2;");
        x.ship(0, 1, 10, 1, 0, 0, 0, false);
        for (int i = 0; i < 200; i++) {
            due("a number", i % 2 == 0 ? x.turn(999 - i, 0) : x.ask(0, i, i % 4 == 1, 0), i);
            if (i % 10 == 0) {
                due("untold ones count, too", x.untell(i), true);
            }
        }
        due("a 201st case", x.turn(0, 2), -1);
        due("a 201st passage", x.ask(0, 0, true, 0), -1);
        due("facts", x.about(3), 200);
        due("no case was told", x.peace(999, 0), 0);
        due("no passage was told", x.plan(0, 0, 0, 0), 0);
        due("the last passage", x.reason(0, 199, 0), 0);
        due("none behind it", x.reason(0, 200, 0), -1);
        due("none behind it", x.untell(200), false);
        due("all dues of the 100 passages", x.year(0, 0, 0), 200);
        due("none in the north", x.inside(0, 999, 1, 0), 0);
        due("the last one of the plan", x.goes(0, 199, 0, 0, 0), 199);
        due("no reading but that of none", x.readings(0, 199, 0), 1);
        due("the last one is untold", x.untell(199), true);
        due("that makes no room", x.turn(0, 2), -1);
        due("a new strait does", strait(x, "land a;") + x.turn(0, 2), 1);
    }

    // ---- promise 14 ----

    private static void untell() {
        says("A FACT is UNTOLD: true");
        StraitHouse x = full();
        due("it counts", x.reason(0, 0, 7), 0);
        due("its dues count", x.year(0, 0, 7), x.dues(0, 0, 7) + x.dues(0, 2, 7) + x.dues(0, 5, 7));
        due("the first", x.untell(0), true);
        due("it counts no more", x.reason(0, 0, 7), -1);
        due("it goes no more", x.goes(0, 10, 0, 0, 7), 1);
        due("a case", x.untell(4), true);
        due("the last", x.untell(6), true);
        due("it counts no more", x.reason(0, 0, 7), -1);
        due("nor does the case", x.peace(999, 7), 0);
        due("they counted", x.reason(0, 0, 6), 0);
        due("they counted", x.peace(999, 6), 2);
        due("how many stays", x.about(3), 7);
    }

    private static void untellIsRefused() {
        says("false if it is so already, or there is none such");
        for (int fact : new int[] {-1, 3, 7, 199, 200, MIN, MAX}) {
            refused("untell(" + fact + ")", 0, x -> number(x.untell(fact)));
        }
        StraitHouse x = full();
        x.later(5);
        due("already", x.untell(3), false);
        due("the time of the first untelling stays", x.reason(0, 3, 6), 3);
        due("the time of the first untelling stays", x.reason(0, 3, 7), -1);
        due("none at first", new StraitHouse().untell(0), false);
    }

    // ---- promise 15 ----

    private static void later() {
        says("So much later (0 .. 1000): the TIME (0 at first, goes on)");
        StraitHouse x = new StraitHouse();
        due("0 at first", x.about(5), 0);
        due("0", x.later(0), 0);
        due("1", x.later(1), 1);
        due("999", x.later(999), 1000);
        due("1000", x.later(1000), 2000);
        due("time", x.about(5), 2000);
    }

    private static void laterIsRefused() {
        says("NONE, doing nothing, for another number, or if it would be above 100,000");
        for (int by : new int[] {-1, 1001, 1002, 100000, MIN, MAX}) {
            refused("later(" + by + ")", -1, x -> x.later(by));
        }
        StraitHouse x = new StraitHouse();
        for (int i = 1; i <= 99; i++) {
            x.later(1000);
        }
        due("99,000", x.about(5), 99000);
        due("99,999", x.later(999), 99999);
        due("100,001", x.later(2), -1);
        due("100,999", x.later(1000), -1);
        due("99,999 still", x.about(5), 99999);
        due("100,000", x.later(1), 100000);
        due("100,001", x.later(1), -1);
        due("0 later", x.later(0), 100000);
        due("100,000 still", x.about(5), 100000);
        x.turn(0, 2);
        due("told at 100,000", x.peace(0, 99999), 0);
        due("told at 100,000", x.peace(0, 100000), 2);
    }

    // ---- ==== 4: times ----

    private static void toldAndUntold() {
        says("as known at k those count that were TOLD at k or before, not UNTOLD at k or before");
        StraitHouse x = house(OPEN + "cell depth 20 bend 0 flow 0 narrow;", "may peace if 1; may war if 1; dues 9;");
        x.ship(1, 30, 10, 1, 0, 0, 0, true);
        x.later(5);
        x.ask(0, 10, true, 0);
        x.turn(10, 2);
        x.sight(10, 6, true, -1);
        x.later(3);
        x.untell(0);
        x.untell(1);
        x.unsight(0);
        x.later(2);
        for (int k : TIMES) {
            boolean counts = k >= 5 && k < 8;
            due("peace at " + k, x.peace(10, k), counts ? 2 : 0);
            due("reason at " + k, x.reason(0, 0, k), counts ? 0 : -1);
            due("why at " + k, x.why(0, 0, k), counts ? 1 : -1);
            due("inside at " + k, x.inside(0, 10, 0, k), counts ? 30 : 0);
            due("dues at " + k, x.dues(0, 0, k), counts ? 9 : -1);
            due("year at " + k, x.year(0, 0, k), counts ? 9 : 0);
            due("plan at " + k, x.plan(0, 10, 0, k), counts ? 1 : 0);
            due("goes at " + k, x.goes(0, 10, 0, 0, k), counts ? 0 : -1);
            due("readings at " + k, x.readings(0, 10, k), 1);
            due("could at " + k, x.could(0, 0, k), counts ? 1 : -1);
        }
        x.sight(10, 900, true, -1);
        for (int k : new int[] {4, 5, 7, 8, 9, 10, 11, MAX}) {
            due("readings of one told at 10, at " + k, x.readings(0, 10, k), k >= 10 ? 0 : 1);
            due("could of it at " + k, x.could(0, 1, k), k >= 10 ? 0 : -1);
        }
    }

    private static void untoldAtTheSameTime() {
        says("UNTOLD at a later one or the same");
        StraitHouse x = house(OPEN, "may peace if 1;");
        x.ship(0, 1, 10, 1, 0, 0, 0, false);
        x.later(5);
        x.ask(0, 10, true, 0);
        x.turn(10, 2);
        x.sight(10, 0, true, -1);
        due("untold", x.untell(0) && x.untell(1) && x.unsight(0), true);
        for (int k : TIMES) {
            due("reason at " + k, x.reason(0, 0, k), -1);
            due("peace at " + k, x.peace(10, k), 0);
            due("could at " + k, x.could(0, 0, k), -1);
            due("readings at " + k, x.readings(0, 10, k), 1);
        }
    }

    // ---- ==== 4: cases, promise 16 ----

    private static void caseOfADay() {
        says("of a day that of the greatest such day not behind it; peace without");
        StraitHouse x = new StraitHouse();
        due("without", x.peace(0, 0), 0);
        due("without", x.peace(999, 0), 0);
        x.turn(500, 2);
        x.turn(100, 1);
        x.turn(700, 0);
        x.turn(999, 1);
        int[][] due = {{0, 0}, {99, 0}, {100, 1}, {101, 1}, {499, 1}, {500, 2}, {501, 2}, {699, 2}, {700, 0}, {998, 0}, {999, 1}};
        for (int[] of : due) {
            due("day " + of[0], x.peace(of[0], 0), of[1]);
        }
        x.turn(0, 2);
        due("from day 0 on", x.peace(0, 0), 2);
        due("from day 0 on", x.peace(99, 0), 2);
        due("the greatest day still", x.peace(100, 0), 1);
    }

    private static void likeCases() {
        says("of like ones the last TOLD");
        StraitHouse x = new StraitHouse();
        x.turn(50, 2);
        x.turn(50, 1);
        due("the last of one time", x.peace(50, 0), 1);
        x.later(1);
        x.turn(50, 0);
        due("the last of two times", x.peace(50, 1), 0);
        due("as known before", x.peace(50, 0), 1);
        x.later(1);
        x.untell(2);
        due("without the last", x.peace(50, 2), 1);
        x.untell(1);
        due("without the last two", x.peace(50, 2), 2);
        due("as known before", x.peace(50, 1), 0);
        x.turn(49, 1);
        due("one of a lesser day, told later", x.peace(50, 2), 2);
        due("one of a lesser day, told later", x.peace(49, 2), 1);
    }

    private static void peaceAnswers() {
        says("The case of a day as known at k; NONE if there is no such day.");
        StraitHouse x = new StraitHouse();
        x.turn(0, 1);
        due("day 0", x.peace(0, 0), 1);
        due("day 999", x.peace(999, 0), 1);
        for (int day : new int[] {-1, 1000, MIN, MAX}) {
            due("day " + day, x.peace(day, 0), -1);
            refused("peace(" + day + ")", -1, y -> y.peace(day, 7));
        }
    }

    // ---- ==== 4: LET, promise 17 ----

    private static void byDaysAndNumbers() {
        says("PASSAGES that count, by days, of like ones by numbers, one behind the other");
        StraitHouse x = house(OPEN, "may peace if 1;");
        x.ship(0, 1, 10, 1, 0, 0, 0, false);
        int[] days = {7, 5, 5, 6, 5, 7, 0, 999};
        boolean[] north = {true, false, true, true, false, false, true, true};
        // By days: 6 (day 0, north), 1 (day 5, south), 2 (north), 4 (south), 3 (day 6, north), 0 (day 7, north), 5 (south), 7 (day 999, north).
        int[] due = {1, 0, 0, 0, 0, 0, 0, 0};
        for (int i = 0; i < days.length; i++) {
            x.ask(0, days[i], north[i], 0);
        }
        for (int i = 0; i < days.length; i++) {
            due("passage " + i, x.reason(0, i, 0), due[i]);
        }
        x.later(1);
        x.untell(6);
        // Without it 1 can't go south.
        int[] without = {1, 1, 0, 0, 0, 0, -1, 0};
        for (int i = 0; i < days.length; i++) {
            due("passage " + i, x.reason(0, i, 1), without[i]);
            due("as known before", x.reason(0, i, 0), due[i]);
        }
    }

    private static void seas() {
        says("all SHIPS are in the south sea at first; one that is LET is in the other sea then (1 it is not in the sea from which it would go)");
        StraitHouse x = house(OPEN, "may peace if load = 0 or north;");
        x.ship(0, 1, 10, 1, 0, 0, 0, false);
        x.ship(0, 1, 10, 1, 0, 0, 1, false);
        x.ask(0, 0, false, 0);
        x.ask(0, 1, true, 0);
        x.ask(0, 2, true, 0);
        x.ask(0, 3, false, 0);
        x.ask(0, 4, false, 0);
        x.ask(1, 0, true, 0);
        x.ask(1, 1, false, 0);
        x.ask(1, 2, true, 0);
        int[] due = {1, 0, 1, 0, 1, 0, 4, 1};
        for (int i = 0; i < due.length; i++) {
            due("passage " + i, x.reason(0, i, 0), due[i]);
        }
        due("by an empty shelf none goes", x.reason(1, 3, 0), 1);
    }

    private static void firstReasonThatHolds() {
        says("It is not LET (the first REASON that holds)");
        int[][] limits = {{100, 100}, {50, 100}, {100, 50}, {50, 50}};
        for (int set = 0; set < 32; set++) {
            boolean hits = (set & 1) != 0;
            boolean early = (set & 2) == 0;
            boolean mays = (set & 4) == 0;
            int[] limit = limits[set >> 3];
            StraitHouse x = house(OPEN, "may peace if load = 0; notice 5; sum " + limit[0] + "; each " + limit[1] + ";");
            x.ship(1, 60, 10, hits ? 20 : 1, 0, 0, mays ? 0 : 1, true);
            int north = x.ask(0, 0, true, early ? 5 : 4);
            int least = hits ? 2 : !early ? 3 : !mays ? 4 : limit[0] < 60 ? 5 : limit[1] < 60 ? 6 : 0;
            due("set " + set, x.reason(0, north, 0), least);
            due("its why", x.why(0, north, 0), hits || !early || !mays ? -1 : 0);
            due("its dues", x.dues(0, north, 0), least == 0 ? 0 : -1);
            due("inside", x.inside(0, 0, 1, 0), least == 0 ? 1 : 0);
            int south = x.ask(0, 1, false, early ? 5 : 4);
            due("set " + set + ": the other sea is first of all", x.reason(0, south, 0), least == 0 ? 0 : 1);
        }
        StraitHouse x = house(OPEN, "may peace if 1; sum 60; each 60;");
        x.ship(1, 60, 10, 1, 0, 0, 0, true);
        x.ask(0, 0, true, 0);
        due("it is inside already: 1 ahead of 5", x.reason(0, x.ask(0, 1, true, 0), 0), 1);
    }

    private static void noticeBelow() {
        says("3 its notice is below the text's");
        for (int least : new int[] {0, 1, 50, 99}) {
            for (int notice : new int[] {0, least - 1, least, least + 1, 99}) {
                if (notice >= 0 && notice <= 99) {
                    StraitHouse x = house(OPEN, "may peace if 1; notice " + least + ";");
                    x.ship(0, 1, 10, 1, 0, 0, 0, false);
                    x.ask(0, 5, true, notice);
                    due("notice " + notice + " of " + least, x.reason(0, 0, 0), notice < least ? 3 : 0);
                }
            }
        }
    }

    private static void mayLinesOfTheCase() {
        says("4 no may line of the day's case holds");
        StraitHouse x = house(OPEN, "may peace if 1;", "may threat if 1;", "may war if 0 - 1;", "may war if 0; may peace if 0; may threat if 0;");
        x.ship(0, 1, 10, 1, 0, 0, 0, false);
        x.turn(10, 1);
        x.turn(20, 2);
        x.turn(30, 0);
        int[] days = {9, 10, 19, 20, 29, 30};
        int[] cases = {0, 1, 1, 2, 2, 0};
        for (int i = 0; i < days.length; i++) {
            int fact = x.ask(0, days[i], true, 0);
            for (int shelf = 0; shelf < 4; shelf++) {
                due("day " + days[i] + " by " + shelf, x.reason(shelf, fact, 0), cases[i] == shelf ? 0 : 4);
            }
            x.untell(fact);
        }
    }

    private static void caseAsKnown() {
        says("(with CASE as known at k)");
        StraitHouse x = house(OPEN, "may peace if 1;");
        x.ship(0, 1, 10, 1, 0, 0, 0, false);
        x.ask(0, 10, true, 0);
        x.later(1);
        x.turn(10, 2);
        x.later(1);
        x.untell(1);
        due("at 0", x.reason(0, 0, 0), 0);
        due("at 1", x.reason(0, 0, 1), 4);
        due("at 2", x.reason(0, 0, 2), 0);
        x.turn(11, 2);
        due("a case of the day behind", x.reason(0, 0, 2), 0);
        x.turn(9, 1);
        due("a case of the day ahead", x.reason(0, 0, 2), 4);
    }

    private static void tonsAboveSum() {
        says("5 a warship of a LAND that is no shore goes north, and the tons of all such that are inside with its own are above sum");
        for (int sum : new int[] {0, 1, 50, 9999}) {
            for (int tons : new int[] {0, sum - 1, sum, sum + 1}) {
                if (tons >= 0 && tons <= 9999) {
                    StraitHouse x = house(OPEN, "may peace if 1; sum " + sum + ";");
                    x.ship(1, tons, 10, 1, 0, 0, 0, true);
                    x.ask(0, 0, true, 0);
                    due(tons + " of " + sum, x.reason(0, 0, 0), tons > sum ? 5 : 0);
                }
            }
        }
        for (int tons = 29; tons <= 31; tons++) {
            StraitHouse x = house(OPEN, "may peace if 1; sum 100;");
            x.ship(1, 30, 10, 1, 0, 0, 0, true);
            x.ship(2, 40, 10, 1, 0, 0, 0, true);
            x.ship(1, tons, 10, 1, 0, 0, 0, true);
            for (int ship = 0; ship < 3; ship++) {
                x.ask(ship, ship, true, 0);
            }
            due("70 and " + tons, x.reason(0, 2, 0), tons > 30 ? 5 : 0);
            due("the first", x.reason(0, 0, 0), 0);
        }
    }

    private static void tonsAboveEach() {
        says("6 those of its LAND with its own are above each");
        for (int each : new int[] {0, 1, 50, 9998}) {
            for (int tons : new int[] {0, each - 1, each, each + 1}) {
                if (tons >= 0) {
                    StraitHouse x = house(OPEN, "may peace if 1; each " + each + ";");
                    x.ship(1, tons, 10, 1, 0, 0, 0, true);
                    x.ask(0, 0, true, 0);
                    due(tons + " of " + each, x.reason(0, 0, 0), tons > each ? 6 : 0);
                }
            }
        }
        for (int tons = 19; tons <= 21; tons++) {
            StraitHouse x = house(OPEN, "may peace if 1; each 50;");
            x.ship(1, 30, 10, 1, 0, 0, 0, true);
            x.ship(2, 50, 10, 1, 0, 0, 0, true);
            x.ship(1, tons, 10, 1, 0, 0, 0, true);
            for (int ship = 0; ship < 3; ship++) {
                x.ask(ship, ship, true, 0);
            }
            due("another land's are not counted", x.reason(0, 1, 0), 0);
            due("30 and " + tons, x.reason(0, 2, 0), tons > 20 ? 6 : 0);
        }
    }

    private static void whoIsCounted() {
        says("the tons of all such (warships of LANDS that are no shore) that are inside (in the north sea)");
        // A shore's warship, and one that is no warship, are let with any tons, and are not counted.
        StraitHouse x = house(OPEN, "may peace if 1; sum 10; each 10;");
        x.ship(0, 9999, 10, 1, 0, 0, 0, true);
        x.ship(1, 9999, 10, 1, 0, 0, 0, false);
        x.ship(1, 10, 10, 1, 0, 0, 0, true);
        x.ship(1, 1, 10, 1, 0, 0, 0, true);
        x.ship(1, 0, 10, 1, 0, 0, 0, true);
        for (int ship = 0; ship < 5; ship++) {
            x.ask(ship, 0, true, 0);
        }
        int[] due = {0, 0, 0, 5, 0};
        for (int i = 0; i < 5; i++) {
            due("ship " + i, x.reason(0, i, 0), due[i]);
        }
        due("tons inside", x.inside(0, 0, 0, 0), 10);
        due("many inside", x.inside(0, 0, 1, 0), 2);
        // One that went south again is inside no more; one that was not let never was.
        x.ask(2, 1, false, 0);
        x.ask(3, 1, true, 0);
        due("south again", x.reason(0, 5, 0), 0);
        due("room for the other", x.reason(0, 6, 0), 0);
        due("tons inside", x.inside(0, 1, 0, 0), 1);
    }

    private static void southwardNoLimit() {
        says("a warship of a LAND that is no shore goes north");
        StraitHouse x = house(OPEN, "may peace if 1; sum 50;", "may peace if 1;");
        x.ship(1, 30, 10, 1, 0, 0, 0, true);
        x.ship(1, 20, 10, 1, 0, 0, 0, true);
        x.ask(0, 0, true, 0);
        x.ask(1, 0, true, 0);
        x.ask(0, 1, false, 0);
        x.ask(1, 1, false, 0);
        for (int i = 0; i < 4; i++) {
            due("passage " + i, x.reason(0, i, 0), 0);
        }
        due("none is inside then", x.inside(0, 1, 1, 0), 0);
    }

    private static void reasonAnswers() {
        says("REASON of a PASSAGE by a SHELF; NONE if it is none, does not count, or no SHELF.");
        for (int fact : new int[] {-1, 4, 6, 7, 199, 200, MIN, MAX}) {
            refused("reason of " + fact, -1, x -> x.reason(0, fact, 7));
            refused("why of " + fact, -1, x -> x.why(0, fact, 7));
            refused("dues of " + fact, -1, x -> x.dues(0, fact, 7));
        }
        for (int shelf : new int[] {-1, 4, MIN, MAX}) {
            refused("reason by " + shelf, -1, x -> x.reason(shelf, 0, 7));
            refused("why by " + shelf, -1, x -> x.why(shelf, 0, 7));
            refused("dues by " + shelf, -1, x -> x.dues(shelf, 0, 7));
        }
        StraitHouse x = full();
        due("it counts", x.reason(0, 3, 6), 3);
        due("it does not count", x.reason(0, 3, 7), -1);
        due("it does not count yet", x.reason(0, 0, 2), -1);
        due("by the shelf 3", x.reason(3, 0, 7), 4);
        due("by the shelf 1", x.reason(1, 1, 7), 0);
    }

    // ---- promise 18 ----

    private static void whys() {
        says("the WHY of one that got as far as 4 and holds: the first may line that holds (its number among all may lines)");
        String seven = "may war if 1;may threat if 1;may peace if 0;may war if 1;may threat if 1;may peace if tons > 9;may war if 1;";
        StraitHouse x = house(OPEN, seven + "may peace if tons > 4;sum 60;each 50;notice 2;");
        x.ship(1, 10, 10, 1, 0, 0, 0, false);
        x.ship(1, 9, 10, 1, 0, 0, 0, false);
        x.ship(1, 4, 10, 1, 0, 0, 0, false);
        x.ship(1, 61, 10, 1, 0, 0, 0, true);
        x.ship(1, 51, 10, 1, 0, 0, 0, true);
        x.ship(1, 10, 10, 20, 0, 0, 0, false);
        int[] reasons = {0, 0, 4, 5, 6, 2};
        int[] whys = {5, 7, -1, 5, 5, -1};
        for (int ship = 0; ship < 6; ship++) {
            x.ask(ship, 0, true, 2);
            due("reason of " + ship, x.reason(0, ship, 0), reasons[ship]);
            due("why of " + ship, x.why(0, ship, 0), whys[ship]);
        }
        due("of one stopped by 1", x.why(0, x.ask(0, 0, true, 2), 0), -1);
        due("of one stopped by 3", x.why(0, x.ask(0, 0, false, 1), 0), -1);
        x.turn(0, 2);
        due("in war", x.why(0, 0, 0), 0);
        x.turn(0, 1);
        due("in threat", x.why(0, 0, 0), 1);
        due("of a case", x.why(0, 8, 0), -1);
        due("as not known", x.why(0, 0, -1), -1);
    }

    // ---- promise 19 ----

    private static void insideOnADay() {
        says("INSIDE on a day: warships of LANDS that are no shore in the north sea behind all PASSAGES up to that day (it, too); TONS: theirs together");
        StraitHouse x = house(OPEN, "may peace if 1;");
        x.ship(1, 30, 10, 1, 0, 0, 0, true);
        x.ship(2, 7, 10, 1, 0, 0, 0, true);
        x.ship(0, 500, 10, 1, 0, 0, 0, true);
        x.ship(1, 600, 10, 1, 0, 0, 0, false);
        x.ship(2, 0, 10, 1, 0, 0, 0, true);
        x.ask(0, 0, true, 0);
        x.ask(1, 10, true, 0);
        x.ask(2, 10, true, 0);
        x.ask(3, 10, true, 0);
        x.ask(4, 11, true, 0);
        x.ask(0, 20, false, 0);
        x.ask(0, 20, true, 0);
        x.ask(0, 21, false, 0);
        x.ask(1, 999, false, 0);
        int[][] due = {{0, 30, 1}, {1, 30, 1}, {9, 30, 1}, {10, 37, 2}, {11, 37, 3}, {19, 37, 3}, {20, 37, 3}, {21, 7, 2}, {998, 7, 2}, {999, 0, 1}};
        for (int[] of : due) {
            due("tons on " + of[0], x.inside(0, of[0], 0, 0), of[1]);
            due("many on " + of[0], x.inside(0, of[0], 1, 0), of[2]);
        }
        due("20 of the greatest", twentyInside(), 20 * 499);
    }

    private static int twentyInside() {
        StraitHouse x = house(OPEN, "may peace if 1;");
        for (int ship = 0; ship < 20; ship++) {
            x.ship(1, 499, 10, 1, 0, 0, 0, true);
            x.ask(ship, 0, true, 0);
        }
        due("all 20", x.inside(0, 0, 1, 0), 20);
        return x.inside(0, 0, 0, 0);
    }

    private static void late() {
        says("LATE is one of these that has been there for more than stay days (day less that of its last way north)");
        for (int stay : new int[] {0, 1, 5, 99}) {
            StraitHouse x = house(OPEN, "may peace if 1; stay " + stay + ";");
            x.ship(1, 30, 10, 1, 0, 0, 0, true);
            x.ship(0, 30, 10, 1, 0, 0, 0, true);
            x.ship(1, 30, 10, 1, 0, 0, 0, false);
            for (int ship = 0; ship < 3; ship++) {
                x.ask(ship, 10, true, 0);
            }
            for (int days : new int[] {0, stay - 1, stay, stay + 1, stay + 2}) {
                if (days >= 0) {
                    due(days + " days of " + stay, x.inside(0, 10 + days, 2, 0), days > stay ? 1 : 0);
                }
            }
            due("ahead of it", x.inside(0, 9, 2, 0), 0);
            x.ask(0, 200, false, 0);
            x.ask(0, 300, true, 0);
            due("it went south", x.inside(0, 200, 2, 0), 0);
            due("the day before it was late", x.inside(0, 199, 2, 0), 1);
            due("of its last way north", x.inside(0, 300 + stay, 2, 0), 0);
            due("of its last way north", x.inside(0, 301 + stay, 2, 0), 1);
        }
    }

    private static void insideAnswers() {
        says("NONE if one can't be");
        for (int n : new int[] {-1, 4, MIN, MAX}) {
            refused("inside by " + n, -1, x -> x.inside(n, 10, 0, 7));
        }
        for (int n : new int[] {-1, 1000, MIN, MAX}) {
            refused("inside on " + n, -1, x -> x.inside(0, n, 0, 7));
        }
        for (int n : new int[] {-1, 3, 4, MIN, MAX}) {
            refused("inside what " + n, -1, x -> x.inside(0, 10, n, 7));
        }
        due("day 0, shelf 3", full().inside(3, 0, 2, 7), 0);
        due("day 999", full().inside(0, 999, 1, 7), 1);
    }

    // ---- promises 20, 21 ----

    private static void dues() {
        says("DUES of a PASSAGE that is LET: dues, 0 at least; NONE if it is not LET");
        for (int minus = 0; minus <= 5; minus++) {
            StraitHouse x = house(OPEN, "may peace if tons = 3; dues tons - " + minus + ";");
            x.ship(0, 3, 10, 1, 0, 0, 0, false);
            x.ship(0, 4, 10, 1, 0, 0, 0, false);
            x.ask(0, 0, true, 0);
            x.ask(1, 0, true, 0);
            x.ask(0, 0, true, 0);
            due("3 less " + minus, x.dues(0, 0, 0), Math.max(0, 3 - minus));
            due("not let", x.dues(0, 1, 0), -1);
            due("not let", x.dues(0, 2, 0), -1);
            due("all of them", x.year(0, 0, 0), Math.max(0, 3 - minus));
        }
        StraitHouse x = full();
        due("by the other shelf 0", x.dues(1, 0, 7), 0);
        due("30 and 5", x.dues(0, 0, 7), 35);
    }

    private static void years() {
        says("YEARS: day / 360 (0 .. 2); All DUES of a year by a SHELF; NONE if one can't be.");
        StraitHouse x = house(OPEN, "may peace if 1; dues 9999*9999*21+9999*4790+8416-day;");
        int[] days = {0, 1, 358, 359, 360, 361, 718, 719, 720, 721, 998, 999};
        long[] due = new long[3];
        for (int i = 0; i < days.length; i++) {
            x.ship(0, 1, 10, 1, 0, 0, 0, false);
            x.ask(i, days[i], true, 0);
            due[days[i] < 360 ? 0 : days[i] < 720 ? 1 : 2] += MAX - (long) days[i];
        }
        for (int year = 0; year < 3; year++) {
            due("year " + year, x.year(0, year, 0), due[year]);
            due("by an empty shelf", x.year(1, year, 0), 0);
            due("as not known", x.year(0, year, -1), 0);
        }
        for (int n : new int[] {-1, 3, MIN, MAX}) {
            refused("year " + n, -1, y -> y.year(0, n, 7));
        }
        for (int n : new int[] {-1, 4, MIN, MAX}) {
            refused("year by " + n, -1, y -> y.year(n, 0, 7));
        }
    }
}
