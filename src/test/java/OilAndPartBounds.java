import java.util.function.ToIntFunction;

/** Each sentence of ==== 7 and of promises 29 to 31 that names a boundary: just inside it, at it, just beyond it. */
public final class OilAndPartBounds extends Checks {
    public static void main(String[] args) {
        currentTenths();
        cut();
        lastOnesToTheSeas();
        allAtOnce();
        oilThatCanBe();
        oilThatCantBe();
        seasOfEachStrait();
        oilLeavesNothing();
        leastByTons();
        thenGunsDecksWar();
        tonsOfAPart();
        gunsDecksWarOfAPart();
        theOthersOfAPart();
        landOfAPart();
        shipsOfOtherCalls();
        kindsThatDiffer();
        partAnswers();
        aboutAnswers();
        aLookSeesAll();
        calls512();
        finish();
    }

    private static String flows(int... currents) {
        StringBuilder text = new StringBuilder();
        for (int current : currents) {
            text.append("cell depth 9 bend 0 ").append(current < 0 ? "back " : "flow ").append(Math.abs(current)).append(';');
        }
        return text.toString();
    }

    private static void dueOil(String what, StraitHouse x, int spilled, int tons, int steps, int... due) {
        int all = 0;
        for (int i = 0; i < due.length; i++) {
            int place = i == 0 ? -1 : i == due.length - 1 ? 20 : i - 1;
            due(what + ": in " + place, x.oil(spilled, tons, steps, place), due[i]);
            all += due[i];
        }
        due(what + ": together", all, tons);
    }

    // ---- ==== 7: OIL ----

    private static void currentTenths() {
        says("In a STEP each CELL gives current / 10 of what it has");
        for (int current = 0; current <= 9; current++) {
            StraitHouse x = house(flows(0, current, 0));
            dueOil("flow " + current, x, 1, 100, 1, 0, 0, 100 - 10 * current, 10 * current, 0);
            x = house(flows(0, -current, 0));
            dueOil("back " + current, x, 1, 100, 1, 0, 10 * current, 100 - 10 * current, 0, 0);
        }
    }

    private static void cut() {
        says("(cut)");
        for (int current = 1; current <= 9; current++) {
            StraitHouse x = house(flows(current, 0));
            for (int tons : new int[] {0, 1, 2, 5, 9, 10, 11, 19, 20, 99998, 99999}) {
                int given = (int) ((long) tons * current / 10);
                dueOil(tons + " by " + current, x, 0, tons, 1, 0, tons - given, given, 0);
            }
        }
        dueOil("1 by 9", house(flows(9, 0)), 0, 1, 1000, 0, 1, 0, 0);
        dueOil("2 by 9", house(flows(9, 0)), 0, 2, 1000, 0, 1, 1, 0);
        dueOil("9 by 1", house(flows(1, 0)), 0, 9, 1000, 0, 9, 0, 0);
        dueOil("10 by 1", house(flows(1, 0)), 0, 10, 1000, 0, 9, 1, 0);
    }

    private static void lastOnesToTheSeas() {
        says("to the next one its current's way (the last ones to the seas)");
        dueOil("one cell north", house(flows(5)), 0, 100, 1, 0, 50, 50);
        dueOil("one cell south", house(flows(-5)), 0, 100, 1, 50, 50, 0);
        dueOil("out of the last", house(flows(0, 5)), 1, 100, 1, 0, 0, 50, 50);
        dueOil("out of the first", house(flows(-5, 0)), 0, 100, 1, 50, 50, 0, 0);
        dueOil("the first one north", house(flows(5, 0)), 0, 100, 1, 0, 50, 50, 0);
        dueOil("the last one south", house(flows(0, -5)), 1, 100, 1, 0, 50, 50, 0);
        dueOil("what is in the seas stays", house(flows(-9)), 0, 100, 1000, 99, 1, 0);
        StraitHouse x = house(times(flows(9), 20));
        due("the last of 20", x.oil(19, 1000, 1, 19), 100);
        due("the north sea", x.oil(19, 1000, 1, 20), 900);
        due("the south sea", x.oil(19, 1000, 1, -1), 0);
        x = house(times(flows(-9), 20));
        due("the first of 20", x.oil(0, 1000, 1, 0), 100);
        due("the south sea", x.oil(0, 1000, 1, -1), 900);
        due("the north sea", x.oil(0, 1000, 1, 20), 0);
        due("not yet there", x.oil(19, 99999, 19, -1), 0);
        due("there", x.oil(19, 99999, 20, -1) > 0, true);
    }

    private static void allAtOnce() {
        says("all at once");
        dueOil("no cell gives what it gets in this step", house(flows(5, 5, 5)), 0, 800, 1, 0, 400, 400, 0, 0);
        dueOil("two steps", house(flows(5, 5, 5)), 0, 800, 2, 0, 200, 400, 200, 0);
        dueOil("southward", house(flows(-5, -5, -5)), 2, 800, 1, 0, 0, 400, 400, 0);
        dueOil("southward, two steps", house(flows(-5, -5, -5)), 2, 800, 2, 0, 200, 400, 200, 0);
        dueOil("against each other", house(flows(5, -5)), 0, 800, 1, 0, 400, 400, 0);
        dueOil("each gives half of its half", house(flows(5, -5)), 0, 800, 2, 0, 400, 400, 0);
    }

    // ---- promise 29 ----

    private static void oilThatCanBe() {
        says("behind so many STEPS (0 .. 1000), of so many (0 .. 99999) that were spilled in a CELL");
        StraitHouse x = house(flows(1, 1));
        dueOil("0 steps", x, 0, 99999, 0, 0, 99999, 0, 0);
        dueOil("0 steps", x, 1, 99999, 0, 0, 0, 99999, 0);
        dueOil("no tons", x, 0, 0, 1000, 0, 0, 0, 0);
        dueOil("1,000 steps", x, 0, 99999, 1000, 0, 9, 9, 99981);
        // 9,999 tons lose one ton in a step at least, as long as there are 10.
        x = house(flows(9));
        dueOil("999 steps", x, 0, 99999, 999, 0, 1, 99998);
        dueOil("1 step", x, 0, 99999, 1, 0, 10000, 89999);
    }

    private static void oilThatCantBe() {
        says("NONE if one can't be");
        for (int n : new int[] {-1, 4, 19, 20, MIN, MAX}) {
            refused("oil spilled in " + n, -1, x -> x.oil(n, 5, 1, 0));
        }
        for (int n : new int[] {-1, 100000, MIN, MAX}) {
            refused("oil of " + n, -1, x -> x.oil(0, n, 1, 0));
            refused("oil of " + n + " elsewhere", -1, x -> x.oil(0, n, 1, 1));
            refused("oil of " + n + " in a sea", -1, x -> x.oil(0, n, 0, 20));
        }
        for (int n : new int[] {-1, 1001, MIN, MAX}) {
            refused("oil in steps " + n, -1, x -> x.oil(0, 5, n, 0));
            refused("oil in steps " + n + " in a sea", -1, x -> x.oil(0, 5, n, 20));
        }
        for (int n : new int[] {-2, 4, 5, 19, 21, MIN, MAX}) {
            refused("oil in " + n, -1, x -> x.oil(0, 5, 1, n));
        }
        StraitHouse x = new StraitHouse();
        due("no cell to spill in", x.oil(0, 5, 0, 20), -1);
        due("no cell to spill in", x.oil(-1, 5, 0, -1), -1);
        due("no cell to spill in", x.oil(20, 5, 0, 20), -1);
    }

    private static void seasOfEachStrait() {
        says("(or in the south sea: NONE, the north one: 20)");
        for (int many : new int[] {1, 2, 19, 20}) {
            StraitHouse x = house(times(flows(9), many));
            due("the last cell", x.oil(many - 1, 100, 0, many - 1), 100);
            due("the north sea", x.oil(many - 1, 100, 1, 20), 90);
            if (many < 20) {
                due("no cell", x.oil(many - 1, 100, 1, many), -1);
                due("no cell", x.oil(many, 100, 1, 0), -1);
            }
            due("the south sea", house(times(flows(-9), many)).oil(0, 100, 1, -1), 90);
        }
    }

    private static void oilLeavesNothing() {
        says("Tons of OIL in a CELL behind so many STEPS of so many that were spilled");
        StraitHouse x = house(flows(5, 5));
        x.oil(0, 99999, 10, 1);
        dueOil("of this alone", x, 1, 10, 1, 0, 0, 5, 5);
        strait(x, flows(5));
        dueOil("in the strait as it is now", x, 0, 10, 1, 0, 5, 5);
    }

    // ---- ==== 7: PART ----

    private static void duePart(String what, String one, String other, int... due) {
        StraitHouse x = house("land ana shore;land bor;", one, other);
        for (int i = 0; i < 6; i++) {
            due(what + ": what " + i, x.part(0, 1, i), due.length == 6 ? due[i] : -2);
            due(what + ": the other way, what " + i, x.part(1, 0, i), due.length == 6 ? due[i < 4 ? i : 9 - i] : -2);
        }
    }

    private static void leastByTons() {
        says("the least by tons (0 .. 99), then guns, decks, war");
        duePart("tons first", "kind a is tons = 7 and guns = 20 and decks = 5 and war or tons = 8;", "", 7, 20, 5, 1, 0, -1);
        duePart("then guns", "kind a is guns = 7 and decks = 5 and war or guns = 8;", "", 0, 7, 5, 1, 0, -1);
        duePart("then decks", "kind a is decks = 3 and war or decks = 4;", "", 0, 0, 3, 1, 0, -1);
        duePart("then war: no", "kind a is 1;", "", 0, 0, 0, 0, 0, -1);
        duePart("war: yes", "kind a is war;", "", 0, 0, 0, 1, 0, -1);
    }

    private static void thenGunsDecksWar() {
        says("tons (0 .. 99), then guns (0 .. 20), decks (0 .. 5), war (no, yes)");
        duePart("all the greatest", "kind a is tons > 98 and guns > 19 and decks > 4 and war;", "", 99, 20, 5, 1, 0, -1);
        duePart("the sum of all", "kind a is tons + guns + decks + war > 124;", "", 99, 20, 5, 1, 0, -1);
        duePart("the sum of all, one less", "kind a is tons + guns + decks + war > 123;", "", 98, 20, 5, 1, 0, -1);
        duePart("the sum is never more", "kind a is tons + guns + decks + war > 125;", "");
    }

    private static void tonsOfAPart() {
        says("tons (0 .. 99)");
        for (int tons : new int[] {0, 1, 98, 99}) {
            duePart("tons " + tons, "kind a is tons = " + tons + ";", "", tons, 0, 0, 0, 0, -1);
        }
        duePart("tons 100", "kind a is tons = 100;", "");
        duePart("tons below 0", "kind a is tons < 0;", "");
    }

    private static void gunsDecksWarOfAPart() {
        says("guns (0 .. 20), decks (0 .. 5), war (no, yes)");
        for (int guns : new int[] {0, 1, 19, 20}) {
            duePart("guns " + guns, "kind a is guns = " + guns + ";", "", 0, guns, 0, 0, 0, -1);
        }
        duePart("guns 21", "kind a is guns > 20;", "");
        duePart("guns below 0", "kind a is guns < 0;", "");
        for (int decks : new int[] {0, 1, 4, 5}) {
            duePart("decks " + decks, "kind a is decks = " + decks + ";", "", 0, 0, decks, 0, 0, -1);
        }
        duePart("decks 6", "kind a is decks > 5;", "");
        duePart("decks below 0", "kind a is decks < 0;", "");
        duePart("no war", "kind a is not war;", "", 0, 0, 0, 0, 0, -1);
        duePart("war", "kind a is war = 1;", "", 0, 0, 0, 1, 0, -1);
        duePart("war 2", "kind a is war > 1;", "");
    }

    private static void theOthersOfAPart() {
        says("of SHIPS of length 100, draft 5, load 0");
        for (String of : new String[] {"length = 100", "draft = 5", "load = 0", "length > 99 and length < 101", "draft > 4 and draft < 6", "load < 1"}) {
            duePart(of, "kind a is " + of + ";", "", 0, 0, 0, 0, 0, -1);
            duePart("not " + of, "kind a is not (" + of + ");", "");
        }
    }

    private static void landOfAPart() {
        says("of SHIPS of LAND 0 (or of none, if there is no LAND: shore 0)");
        duePart("land 0", "kind a is land ana;", "", 0, 0, 0, 0, 0, -1);
        duePart("land 1", "kind a is land bor;", "");
        duePart("a shore", "kind a is shore;", "", 0, 0, 0, 0, 0, -1);
        StraitHouse x = house("land bor;land ana shore;", "kind a is shore;", "kind a is land bor;");
        due("no shore, land 0", x.part(0, 1, 5), 0);
        due("no shore, land 0", x.part(0, 1, 4), -1);
        x = house("", "kind a is shore;", "kind a is not shore;");
        due("no land: shore 0", x.part(0, 1, 4), -1);
        due("no land: shore 0", x.part(0, 1, 5), 0);
        x = house("cell depth 1 bend 9 flow 9;", "kind a is shore;");
        due("no land: shore 0", x.part(0, 1, 0), -2);
        x = house("land a shore;", "kind a is shore;");
        x.ship(0, 1, 10, 1, 0, 0, 0, false);
        due("a land", x.part(0, 1, 0), 0);
        strait(x, "");
        convention(x, 0, "kind a is shore;");
        due("none any more", x.part(0, 1, 0), -2);
        strait(x, "");
        convention(x, 0, "kind a is shore;");
        due("none still", x.part(0, 1, 0), -2);
    }

    private static void shipsOfOtherCalls() {
        says("of SHIPS of LAND 0, length 100, draft 5, load 0 (and none that other calls asked about)");
        String strait = "land ana;land bor shore;";
        for (String of : new String[] {"load", "length > 100", "draft > 5", "land bor", "shore"}) {
            StraitHouse x = house(strait, "kind a is " + of + ";may peace if 1;", "");
            x.ship(1, 50, 400, 30, 20, 5, 9, true);
            x.ask(0, 0, true, 0);
            due("that ship is one", x.kind(0, 0), 0);
            due("it is none of these", x.part(0, 1, 0), -2);
            due("that ship is let", x.reason(0, 0, 0), 0);
            due("it is none of these", x.part(1, 0, 0), -2);
        }
        StraitHouse x = house(strait, "kind a is tons > 9;", "kind a is guns > 8;", "kind a is decks > 3;", "kind a is war;");
        for (int a = 0; a < 4; a++) {
            for (int b = 0; b < 12; b++) {
                parts(x, a, b % 4);
                parts(x, a, b / 3);
            }
            for (int b = 0; b < 12; b++) {
                parts(x, b % 4, a);
                parts(x, b / 3, a);
            }
        }
        convention(x, 3, "kind a is tons > 9;");
        due("a new text", x.part(0, 3, 0), -2);
        due("a new text", x.part(3, 2, 2), 4);
    }

    /** Where the first of two is of the KIND, and no other: by tons 10, guns 9, decks 4, war 1; the least SHIP is that of the last one. */
    private static void parts(StraitHouse x, int a, int b) {
        int[][] least = {{10, 0, 0, 0}, {0, 9, 0, 0}, {0, 0, 4, 0}, {0, 0, 0, 1}};
        int by = Math.max(a, b);
        // The number in which it is unlike those of other pairs is asked for first.
        for (int i = by; i < by + 4; i++) {
            due("part(" + a + ", " + b + ", " + i % 4 + ")", x.part(a, b, i % 4), a == b ? -2 : least[by][i % 4]);
        }
        due("by the first", x.part(a, b, 4), a == b ? -2 : by == a ? 0 : -1);
        due("by the second", x.part(a, b, 5), a == b ? -2 : by == b ? 0 : -1);
    }

    private static void kindsThatDiffer() {
        says("whose KINDS by both differ by number");
        duePart("other names, the same numbers", "kind a is tons > 5;kind b is 1;", "kind x is tons > 5;kind y is 1;");
        duePart("the same names, other numbers", "kind a is 1;", "kind b is 0;kind a is 1;", 0, 0, 0, 0, 0, 1);
        duePart("a kind and none", "kind a is tons > 5;", "", 6, 0, 0, 0, 0, -1);
        duePart("none and none", "kind a is 0;", "");
        duePart("the sixth", "kind a is 0;kind b is 0;kind c is 0;kind d is 0;kind e is 0;kind f is tons > 98;", "", 99, 0, 0, 0, 5, -1);
        duePart("what is no kind line does not count", "sum 1;each 1;stay 1;notice 1;dues 1;may war if 1;", "");
        duePart("both empty", "", "");
        duePart("a kind that asks for a kind", "kind a is tons > 50;kind b is not kind a and guns > 2;", "kind a is tons > 50;", 0, 3, 0, 0, 1, -1);
    }

    // ---- promise 30 ----

    private static void partAnswers() {
        says("-2 if they do not part, or one can't be");
        for (int n : new int[] {-1, 4, 5, MIN, MAX}) {
            refused("part(" + n + ", 0)", -2, x -> x.part(n, 0, 0));
            refused("part(0, " + n + ")", -2, x -> x.part(0, n, 0));
            refused("part(" + n + ", " + n + ")", -2, x -> x.part(n, n, 0));
        }
        for (int n : new int[] {-1, 6, 7, MIN, MAX}) {
            refused("part what " + n, -2, x -> x.part(0, 1, n));
        }
        for (int n = 0; n < 4; n++) {
            int shelf = n;
            refused("part of itself", -2, x -> x.part(shelf, shelf, 0));
        }
        StraitHouse x = full();
        due("0 and 1", x.part(0, 1, 1), 1);
        due("shelf 3", x.part(1, 3, 0), 31);
        due("two empty ones", x.part(2, 3, 0), -2);
        x.end(0);
        convention(x, 3, "kind a is tons > 40; kind b is guns > 0; sum 7;");
        due("a text with the same kinds", x.part(0, 3, 0), -2);
    }

    // ---- promise 31 ----

    private static void aboutAnswers() {
        says("What 0: CELLS, 1: LANDS, 2: SHIPS, 3: FACTS, 4: SIGHTINGS, 5: the TIME, 6: bytes on the TAPE, 10 + s: lines of SHELF s. NONE for another what.");
        StraitHouse x = full();
        int[] due = {4, 3, 3, 7, 3, 7, 15, -1, -1, -1, 9, 4, 0, 0, -1, -1};
        for (int what = 0; what < due.length; what++) {
            due("about(" + what + ")", x.about(what), due[what]);
        }
        for (int what : new int[] {-1, 7, 8, 9, 14, 15, MIN, MIN + 9, MIN + 10, MIN + 13, MAX, MAX - 10}) {
            refused("about(" + what + ")", -1, y -> y.about(what));
        }
    }

    // ---- the tests themselves ----

    private static void aLookSeesAll() {
        says("a look sees what a call does, so that it sees if a refused call did something");
        sees("feed", x -> x.feed(0, 0, 0, 0, 0));
        sees("end", x -> x.end(8));
        sees("end", x -> x.end(14));
        sees("strait", x -> x.end(0) + x.strait());
        for (int shelf = 0; shelf < 3; shelf++) {
            int on = shelf;
            sees("convention", x -> x.convention(on));
        }
        sees("fault", x -> x.end(4) + x.convention(3));
        sees("ship", x -> x.ship(0, 1, 10, 1, 0, 0, 0, false));
        sees("turn", x -> x.turn(20, 0));
        sees("turn", x -> x.turn(999, 0));
        sees("ask", x -> x.ask(0, 999, true, 0));
        for (int fact : new int[] {0, 1, 2, 4, 5, 6}) {
            sees("untell(" + fact + ")", x -> x.untell(fact) ? 1 : 0);
        }
        sees("later", x -> x.later(1));
        sees("gap", x -> x.gaps(11, 25) ? 1 : 0);
        sees("gap", x -> x.gaps(40, 25) ? 1 : 0);
        sees("blur", x -> x.gaps(12, 5) ? 1 : 0);
        sees("sight", x -> x.sight(10, 0, true, -1));
        sees("sight", x -> x.sight(999, 0, true, -1));
        sees("unsight", x -> x.unsight(0) ? 1 : 0);
        sees("unsight", x -> x.unsight(2) ? 1 : 0);
    }

    private static void sees(String what, ToIntFunction<StraitHouse> call) {
        StraitHouse touched = full();
        StraitHouse untouched = full();
        call.applyAsInt(touched);
        due("seen: " + what, (look(touched) + lookOn(touched)).equals(look(untouched) + lookOn(untouched)), false);
    }

    private static void calls512() {
        says("An object is used for at most 512 calls after it has been made");
        StraitHouse x = house("land a;", "kind a is tons > 98;may peace if 1;dues 1;");
        x.ship(0, 99, 10, 1, 0, 0, 0, false);
        // 10 calls are made by now, or fewer.
        for (int i = 0; i < 100; i++) {
            due("ask", x.ask(0, i, i % 2 == 0, 0), i);
            due("reason", x.reason(0, i, 0), 0);
            due("year", x.year(0, 0, 0), i + 1);
            due("part", x.part(0, 1, 0), 99);
            due("plan", x.plan(0, i, 0, 0), 1);
        }
    }
}
