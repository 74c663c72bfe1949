/** Each sentence of ==== 3 and of promises 7 to 10 that names a boundary: just inside it, at it, just beyond it. */
public final class ShipBounds extends Checks {
    private static final int[] LEAST = {0, 0, 10, 1, 0, 0, 0};
    private static final int[] MOST = {2, 9999, 400, 30, 20, 5, 9};
    private static final String[] WORDS = {"land", "tons", "length", "draft", "guns", "decks", "load"};

    public static void main(String[] args) {
        shipsThatCanBe();
        shipsThatCantBe();
        twentyShips();
        shipsInTheText();
        cellAnswers();
        draftAndDepth();
        bendAndCurrent();
        currentsAgainst();
        firstOnItsWay();
        hitsAnswers();
        lengthInMinutes();
        currentInMinutes();
        minutesAnswers();
        finish();
    }

    private static int make(StraitHouse x, int[] of, boolean war) {
        return x.ship(of[0], of[1], of[2], of[3], of[4], of[5], of[6], war);
    }

    private static int[] with(int field, int number) {
        int[] of = {1, 50, 100, 5, 1, 1, 1};
        of[field] = number;
        return of;
    }

    // ---- promise 7 ----

    private static void shipsThatCanBe() {
        says("a LAND (by number), tons (0 .. 9999), length (10 .. 400), draft (1 .. 30), guns (0 .. 20), decks (0 .. 5), load (0 .. 9)");
        for (int field = 0; field < 7; field++) {
            for (int number : new int[] {LEAST[field], LEAST[field] + 1, MOST[field] - 1, MOST[field]}) {
                StraitHouse x = house(STRAIT);
                due(WORDS[field] + " " + number, make(x, with(field, number), true), 0);
                due(WORDS[field] + " " + number, make(x, with(field, number), false), 1);
                due("ships", x.about(2), 2);
            }
        }
        StraitHouse x = house(STRAIT);
        due("all the least", make(x, LEAST, false), 0);
        due("all the greatest", make(x, MOST, true), 1);
    }

    private static void shipsThatCantBe() {
        says("A SHIP: a number; NONE, doing nothing, if one can't be");
        for (int field = 0; field < 7; field++) {
            for (int number : new int[] {LEAST[field] - 1, MOST[field] + 1, MIN, MAX, -1}) {
                int[] of = with(field, number);
                refused("ship with " + WORDS[field] + " " + number, -1, x -> make(x, of, true));
            }
        }
        StraitHouse x = new StraitHouse();
        due("without lands", make(x, LEAST, false), -1);
        due("none was made", x.about(2), 0);
        strait(x, "land a;");
        due("one land", make(x, LEAST, false), 0);
        due("no second", make(x, with(0, 1), false), -1);
    }

    private static void twentyShips() {
        says("SHIPS, 20 at most; NONE, doing nothing, if there are 20");
        StraitHouse x = house(STRAIT, "kind a is tons = 20;");
        for (int i = 0; i < 20; i++) {
            due("a number", x.ship(0, i + 1, 10, 1, 0, 0, 0, false), i);
            due("ships", x.about(2), i + 1);
        }
        due("a 21st", x.ship(0, 77, 10, 1, 0, 0, 0, false), -1);
        due("ships", x.about(2), 20);
        due("no ship 20", x.hits(20, true) + x.minutes(20, 0, true) + x.ask(20, 0, true, 0), -3);
        due("the last one is as it was", x.kind(0, 19), 0);
        due("the first one is as it was", x.kind(0, 0), -1);
        due("a passage of the last", x.ask(19, 0, true, 0), 0);
        strait(x, "land a;");
        due("a new strait has room", x.ship(0, 1, 10, 1, 0, 0, 0, false), 0);
    }

    private static void shipsInTheText() {
        says("war (true: a warship). In the text war is 1 or 0, shore 1 if its LAND is one");
        StraitHouse x = house(STRAIT, "may peace if 1; dues 1 + 2 * war + 4 * shore;",
                "may peace if 1; dues 1 + (tons = 9999 and length = 400 and draft = 5 and guns = 20 and decks = 5 and load = 9);",
                "may peace if 1; dues 1 + (tons = 0 and length = 10 and draft = 1 and guns = 0 and decks = 0 and load = 0);");
        x.ship(0, 0, 10, 1, 0, 0, 0, false);
        x.ship(0, 0, 10, 1, 0, 0, 0, true);
        x.ship(1, 0, 10, 1, 0, 0, 0, false);
        x.ship(1, 0, 10, 1, 0, 0, 0, true);
        int[] dues = {1 + 4, 1 + 2 + 4, 1, 1 + 2};
        for (int ship = 0; ship < 4; ship++) {
            x.ask(ship, 0, true, 0);
            due("ship " + ship, x.dues(0, ship, 0), dues[ship]);
            due("ship " + ship, x.dues(1, ship, 0), 1);
            due("ship " + ship, x.dues(2, ship, 0), 2);
        }
        x = house("cell depth 99 bend 0 flow 0;land a;", "may peace if 1; dues tons + length + draft + guns + decks + load;");
        x.ship(0, 9999, 400, 30, 20, 5, 9, false);
        x.ask(0, 0, true, 0);
        due("the greatest", x.dues(0, 0, 0), 9999 + 400 + 30 + 20 + 5 + 9);
    }

    // ---- promise 8 ----

    private static void cellAnswers() {
        says("Of a CELL what 0: depth, 1: bend, 2: current plus 10, 3: 1 if it is narrow. NONE if there is none such.");
        StraitHouse x = house("cell depth 1 bend 9 flow 9 narrow;cell depth 99 bend 0 back 9;cell depth 5 bend 5 flow 0;cell depth 5 bend 5 back 0;");
        int[][] due = {{1, 9, 19, 1}, {99, 0, 1, 0}, {5, 5, 10, 0}, {5, 5, 10, 0}};
        for (int cell = 0; cell < 4; cell++) {
            for (int what = 0; what < 4; what++) {
                due("cell(" + cell + ", " + what + ")", x.cell(cell, what), due[cell][what]);
            }
        }
        for (int n : new int[] {-1, 4, 19, 20, 21, MIN, MAX}) {
            refused("cell(" + n + ", 0)", -1, y -> y.cell(n, 0));
        }
        for (int n : new int[] {-1, 4, 5, MIN, MAX}) {
            refused("cell(0, " + n + ")", -1, y -> y.cell(0, n));
        }
        due("no cell at all", new StraitHouse().cell(0, 0), -1);
    }

    // ---- ==== 3 and promise 9 ----

    private static StraitHouse lone(String cell, int length, int draft) {
        StraitHouse x = house(cell + "land a;");
        x.ship(0, 1, length, draft, 0, 0, 0, false);
        return x;
    }

    private static void draftAndDepth() {
        says("can't go through a CELL, if its draft is above depth less 1");
        for (int depth : new int[] {1, 2, 15, 30, 31, 32, 99}) {
            for (int draft : new int[] {1, depth - 2, depth - 1, depth, depth + 1, 30}) {
                if (draft >= 1 && draft <= 30) {
                    StraitHouse x = lone("cell depth " + depth + " bend 0 flow 0;", 10, draft);
                    due("draft " + draft + ", depth " + depth, x.hits(0, true), draft > depth - 1 ? 0 : -1);
                    due("draft " + draft + ", depth " + depth, x.hits(0, false), draft > depth - 1 ? 0 : -1);
                }
            }
        }
        due("29 in 30", lone("cell depth 30 bend 0 flow 0;", 10, 29).hits(0, true), -1);
        due("30 in 30", lone("cell depth 30 bend 0 flow 0;", 10, 30).hits(0, true), 0);
        due("30 in 31", lone("cell depth 31 bend 0 flow 0;", 10, 30).hits(0, true), -1);
        due("1 in 1", lone("cell depth 1 bend 0 flow 0;", 10, 1).hits(0, true), 0);
    }

    private static void bendAndCurrent() {
        says("or if length * bend + 50 * current is above 1500");
        int[][] at1500 = {{300, 5, 0}, {290, 5, 1}, {280, 5, 2}, {150, 9, 3}, {350, 3, 9}, {400, 3, 6}, {250, 6, 0}, {150, 7, 9}, {375, 4, 0}};
        for (int[] of : at1500) {
            due("1500", of[0] * of[1] + 50 * of[2], 1500);
            String flow = "cell depth 99 bend " + of[1] + " flow " + of[2] + ";";
            String back = "cell depth 99 bend " + of[1] + " back " + of[2] + ";";
            due("not above", lone(flow, of[0], 1).hits(0, true), -1);
            due("not above", lone(back, of[0], 1).hits(0, false), -1);
            due("less", lone(flow, of[0] - 1, 1).hits(0, true), -1);
            if (of[0] < 400) {
                due("above", lone(flow, of[0] + 1, 1).hits(0, true), 0);
                due("above", lone(back, of[0] + 1, 1).hits(0, false), 0);
            }
        }
        due("1501", lone("cell depth 99 bend 7 flow 3;", 193, 1).hits(0, true), 0);
        due("1501", lone("cell depth 99 bend 3 back 8;", 367, 1).hits(0, false), 0);
        due("1502", lone("cell depth 99 bend 3 flow 7;", 384, 1).hits(0, true), 0);
        due("1499", lone("cell depth 99 bend 3 flow 7;", 383, 1).hits(0, true), -1);
        due("no bend, the greatest current", lone("cell depth 99 bend 0 flow 9;", 400, 1).hits(0, true), -1);
        due("the greatest of all", lone("cell depth 99 bend 9 flow 9;", 400, 1).hits(0, true), 0);
    }

    private static void currentsAgainst() {
        says("current: that which runs its own way; 0 if it runs against it");
        StraitHouse x = lone("cell depth 99 bend 5 flow 9;", 300, 1);
        due("1950 with it", x.hits(0, true), 0);
        due("1500 against it", x.hits(0, false), -1);
        x = lone("cell depth 99 bend 5 back 9;", 300, 1);
        due("1950 with it", x.hits(0, false), 0);
        due("1500 against it", x.hits(0, true), -1);
        x = lone("cell depth 99 bend 7 back 9;", 215, 1);
        due("1505 is not 1055", x.hits(0, true), 0);
        x = lone("cell depth 99 bend 7 flow 9;", 215, 1);
        due("1505 is not 1055", x.hits(0, false), 0);
    }

    private static void firstOnItsWay() {
        says("HITS: the first CELL on its way at which it can't");
        String deep = "cell depth 30 bend 0 flow 0;";
        String flat = "cell depth 5 bend 0 flow 0;";
        for (int first = 0; first < 20; first++) {
            for (int last = first; last < 20; last += 3) {
                StringBuilder cells = new StringBuilder();
                for (int i = 0; i < 20; i++) {
                    cells.append(i == first || i == last ? flat : deep);
                }
                StraitHouse x = lone(cells.toString(), 10, 5);
                due("north", x.hits(0, true), first);
                due("south", x.hits(0, false), last);
            }
        }
        due("none of 20", lone(times(deep, 20), 10, 5).hits(0, true), -1);
        due("no cell at all", lone("", 400, 30).hits(0, true), -1);
        due("no cell at all", lone("", 400, 30).hits(0, false), -1);
        StraitHouse x = lone("cell depth 99 bend 7 flow 4;cell depth 99 bend 7 back 4;", 200, 1);
        due("each by its own way", x.hits(0, true), 0);
        due("each by its own way", x.hits(0, false), 1);
    }

    private static void hitsAnswers() {
        says("HITS of a SHIP; NONE if it can go, or there is none such.");
        for (int n : new int[] {-1, 3, 20, MIN, MAX}) {
            refused("hits(" + n + ")", -1, x -> x.hits(n, true));
            refused("hits(" + n + ")", -1, x -> x.hits(n, false));
        }
        StraitHouse x = lone("cell depth 5 bend 0 flow 0;", 10, 5);
        due("there is none such, though all would hit", x.hits(1, true), -1);
        due("there is none such, though all would hit", x.hits(-1, true), -1);
    }

    // ---- ==== 3 and promise 10 ----

    private static void lengthInMinutes() {
        says("Its MINUTES in a CELL: 6 and length / 100 (cut)");
        int[][] due = {{10, 6}, {99, 6}, {100, 7}, {101, 7}, {199, 7}, {200, 8}, {299, 8}, {300, 9}, {399, 9}, {400, 10}};
        for (int[] of : due) {
            StraitHouse x = lone("cell depth 99 bend 0 flow 0;", of[0], 1);
            due("length " + of[0], x.minutes(0, 0, true), of[1]);
            due("length " + of[0], x.minutes(0, 0, false), of[1]);
        }
    }

    private static void currentInMinutes() {
        says("less the current that runs its way, or more by that against it; 1 at least");
        for (int current = 0; current <= 9; current++) {
            for (int length : new int[] {10, 99, 100, 250, 399, 400}) {
                int still = 6 + length / 100;
                StraitHouse x = lone("cell depth 99 bend 0 flow " + current + ";cell depth 99 bend 0 back " + current + ";", length, 1);
                int with = still > current ? still - current : 1;
                due("with it", x.minutes(0, 0, true), with);
                due("with it", x.minutes(0, 1, false), with);
                due("against it", x.minutes(0, 0, false), still + current);
                due("against it", x.minutes(0, 1, true), still + current);
            }
        }
        due("6 less 5", lone("cell depth 99 bend 0 flow 5;", 99, 1).minutes(0, 0, true), 1);
        due("6 less 6", lone("cell depth 99 bend 0 flow 6;", 99, 1).minutes(0, 0, true), 1);
        due("6 less 4", lone("cell depth 99 bend 0 flow 4;", 99, 1).minutes(0, 0, true), 2);
        due("also where it can't go", lone("cell depth 1 bend 9 flow 9;", 400, 30).minutes(0, 0, true), 1);
    }

    private static void minutesAnswers() {
        says("Its MINUTES in a CELL; NONE if one is none.");
        for (int n : new int[] {-1, 3, 20, MIN, MAX}) {
            refused("minutes of ship " + n, -1, x -> x.minutes(n, 0, true));
        }
        for (int n : new int[] {-1, 4, 19, 20, MIN, MAX}) {
            refused("minutes in cell " + n, -1, x -> x.minutes(0, n, false));
        }
        StraitHouse x = lone(times("cell depth 9 bend 0 flow 0;", 20), 10, 1);
        due("the last cell", x.minutes(0, 19, true), 6);
        due("none behind it", x.minutes(0, 20, true), -1);
        due("no cell", lone("", 10, 1).minutes(0, 0, true), -1);
    }
}
