import java.util.Arrays;
import java.util.List;

/** Each sentence of ==== 1 and of promises 1 to 4 that names a boundary: just inside it, at it, just beyond it. */
public final class StraitTextBounds extends Checks {
    private static final String CELL = "cell depth 9 bend 0 flow 0;";
    private static final String EIGHT_LANDS = "land a;land b;land c;land d;land e;land f;land g;land h;";

    public static void main(String[] args) {
        newObject();
        feed();
        feedIsRefused();
        feedTakesTheHighestFirst();
        end();
        endIsRefused();
        bytesOfTheStrait();
        lines();
        lengthOfWords();
        lengthOfNumbers();
        everyByte();
        everyByteBehindANumber();
        everyByteBehindAWord();
        asLongAsCanBe();
        noLetterBehindANumber();
        wordsAreNoNames();
        namesThatAreNearlyWords();
        cells();
        cellsOutOfRange();
        lands();
        depths();
        bends();
        currents();
        shoresAndNarrows();
        firstByPlace();
        leastAtOnePlace();
        theEnd();
        whatCantStandThere();
        namesToldAlready();
        straitMakesAllNew();
        straitWithAFault();
        factsOfOldStraits();
        gorgesOfOldStraits();
        finish();
    }

    // ---- promise 1 ----

    private static void newObject() {
        says("An empty STRAIT, empty SHELVES, no SHIPS.");
        StraitHouse x = new StraitHouse();
        for (int what = 0; what <= 6; what++) {
            due("about(" + what + ")", x.about(what), 0);
        }
        due("no cell", x.cell(0, 0), -1);
        due("no ship", x.hits(0, true), -1);
        due("no ship can be without a land", x.ship(0, 1, 10, 1, 0, 0, 0, false), -1);
        due("no fact", x.untell(0), false);
        due("no sighting", x.unsight(0), false);
        due("no fault", x.fault(0), 0);
        due("no place", x.fault(1), -1);
        for (int shelf = 0; shelf < 4; shelf++) {
            due("lines", x.about(10 + shelf), 0);
            due("dues", x.year(shelf, 0, 0), 0);
            due("parts", x.part(0, shelf, 0), -2);
        }
        due("a second object has nothing of the first", full().about(2) + new StraitHouse().about(2), 3);
    }

    // ---- promise 2 ----

    private static void feed() {
        says("how many there are; NONE, and nothing comes, if there would be more than 1,200");
        StraitHouse x = new StraitHouse();
        for (int i = 1; i <= 60; i++) {
            due("feed " + i, x.feed(0, 0, 0, 0, 0), 20 * i);
            due("bytes", x.about(6), 20 * i);
        }
        due("1,220", x.feed(0, 0, 0, 0, 0), -1);
        due("still 1,200", x.about(6), 1200);
        for (int left = 1; left <= 19; left++) {
            due("end", x.end(1200 - left), 1200 - left);
            due("1,201 to 1,219", x.feed(0, 0, 0, 0, 0), -1);
            due("as many as before", x.about(6), 1200 - left);
        }
        due("end", x.end(1180), 1180);
        due("1,200 again", x.feed(0, 0, 0, 0, 0), 1200);
    }

    private static void feedIsRefused() {
        says("NONE, and nothing comes");
        StraitHouse x = new StraitHouse();
        put(x, padded("land a;", 1181));
        due("1,201", x.feed(-1, -1, -1, -1, -1), -1);
        due("what is there is a text still", x.strait(), 1);
        put(x, padded("land b;land c;", 1200));
        due("1,220", x.feed(-1, -1, -1, -1, -1), -1);
        due("what is there is a text still", x.strait(), 2);
        refused("feed", -1, () -> {
            StraitHouse y = full();
            put(y, times(" ", 1190 - y.about(6)));
            return y;
        }, y -> y.feed(0x3f3f3f3f, 0x3f3f3f3f, 0x3f3f3f3f, 0x3f3f3f3f, 0x3f3f3f3f));
    }

    private static void feedTakesTheHighestFirst() {
        says("Twenty bytes come behind those on the TAPE, of each number the highest first");
        for (int at = 0; at < 20; at++) {
            int[] n = new int[5];
            Arrays.fill(n, 0x20202020);
            n[at / 4] ^= (0x20 ^ 0x3f) << (24 - at % 4 * 8);
            StraitHouse x = new StraitHouse();
            x.feed(0x20202020, 0x20202020, 0x20202020, 0x20202020, 0x20202020);
            x.feed(n[0], n[1], n[2], n[3], n[4]);
            due("strait", x.strait(), -1);
            due("no token", x.fault(0), 1);
            due("its place", x.fault(1), 20 + at);
        }
        StraitHouse x = new StraitHouse();
        x.feed(-1, MIN, MAX, 0, 0x80808080);
        due("bytes above 127", x.strait(), -1);
        due("the first is no token", x.fault(1), 0);
    }

    // ---- promise 3 ----

    private static void end() {
        says("The TAPE has its first n bytes: n");
        StraitHouse x = new StraitHouse();
        due("0 of none", x.end(0), 0);
        put(x, "land a;");
        x.feed(0x3f3f3f3f, 0x3f3f3f3f, 0x3f3f3f3f, 0x3f3f3f3f, 0x3f3f3f3f);
        due("all", x.end(27), 27);
        due("all but one", x.end(26), 26);
        due("bytes", x.about(6), 26);
        due("the first 7", x.end(7), 7);
        put(x, "land b;");
        due("what comes then comes behind these", x.strait(), 2);
        put(x, "land a;");
        due("none is left", x.end(0), 0);
        due("bytes", x.about(6), 0);
        due("an empty text", x.strait(), 0);
    }

    private static void endIsRefused() {
        says("NONE, doing nothing, if it has not so many, or n is below 0");
        due("of none", new StraitHouse().end(1), -1);
        int bytes = full().about(6);
        due("bytes of the full house", bytes, 15);
        for (int n : new int[] {-1, -2, MIN, bytes + 1, bytes + 2, 1200, 1201, MAX}) {
            refused("end(" + n + ")", -1, x -> x.end(n));
        }
        StraitHouse x = full();
        x.end(7);
        due("what is cut off is gone", x.end(8), -1);
        due("bytes", x.about(6), 7);
        x = new StraitHouse();
        put(x, times(" ", 1200));
        due("1,201 are never there", x.end(1201), -1);
        due("1,200 are", x.end(1200), 1200);
    }

    // ---- ==== 1 ----

    private static void bytesOfTheStrait() {
        says("THE STRAIT is a text of at most 1,200 bytes (empty at first)");
        straitStands("", 0);
        for (int bytes = 1199; bytes <= 1200; bytes++) {
            straitStands(padded("land a;", bytes), 1);
            straitFault(padded("land a", bytes), 2, bytes);
            straitFault(padded("?", bytes), 1, bytes - 1);
            straitFault(padded("land 5", bytes), 2, bytes - 1);
        }
        straitFault(times(";", 1200), 2, 0);
        straitFault(times("a", 1200), 1, 0);
        straitFault(times("1", 1200), 1, 0);
        StraitHouse x = new StraitHouse();
        due("the tape is the strait as far as it goes", strait(x, padded("land a;", 1200)), 1);
        due("a shorter one is not read beyond its end", strait(x, "land b"), -1);
        due("its place", x.fault(1), 6);
    }

    private static void lines() {
        says("strait = {line}");
        straitStands("", 0);
        straitStands(" ", 0);
        straitStands("\n", 0);
        straitStands(times(" \n", 600), 0);
        straitStands("land a;", 1);
        straitStands(CELL, 1);
        straitStands(CELL + "land a;" + CELL, 3);
        straitStands(times(CELL, 20) + EIGHT_LANDS, 28);
        straitStands(EIGHT_LANDS + times(CELL, 20), 28);
    }

    private static void lengthOfWords() {
        says("words (a .. z, 8 at most)");
        for (int letters = 1; letters <= 30; letters++) {
            String name = times("z", letters);
            if (letters <= 8) {
                straitStands("land " + name + ";", 1);
                straitStands("land " + name + " shore;", 1);
            } else {
                straitFault("land " + name + ";", 1, 5);
                straitFault("land a; " + name, 1, 8);
            }
        }
        straitStands("land aaaaaaaa;land zzzzzzzz;", 2);
        straitFault("land aaaaaaaaa;", 1, 5);
    }

    private static void lengthOfNumbers() {
        says("N (1 to 4 digits)");
        String[] nines = {"9", "09", "009", "0009"};
        for (String nine : nines) {
            StraitHouse x = house("cell depth " + nine + " bend " + nine + " back " + nine + ";");
            due("depth " + nine, x.cell(0, 0), 9);
            due("bend " + nine, x.cell(0, 1), 9);
            due("back " + nine, x.cell(0, 2), 1);
        }
        straitFault("cell depth 00009 bend 0 flow 0;", 1, 11);
        straitFault("cell depth 9 bend 00009 flow 0;", 1, 18);
        straitFault("cell depth 9 bend 0 flow 00009;", 1, 25);
        straitFault("cell depth 10000 bend 0 flow 0;", 1, 11);
        straitFault("cell depth 4294967305 bend 0 flow 0;", 1, 11);
        straitFault("cell depth " + times("0", 40) + " bend 0 flow 0;", 1, 11);
    }

    private static boolean isSign(int b) {
        return ";()<>=+-*".indexOf(b) >= 0;
    }

    private static boolean isBlank(int b) {
        return b == 32 || b == 10;
    }

    private static void everyByte() {
        says("signs ; ( ) < > = + - *; blanks (32, 10) part them or not");
        for (int b = 0; b < 256; b++) {
            char sign = (char) b;
            boolean isLetter = b >= 'a' && b <= 'z';
            boolean isDigit = b >= '0' && b <= '9';
            if (isBlank(b)) {
                straitStands("land a;" + sign, 1);
                straitStands(sign + "land" + sign + sign + "a" + sign + ";" + sign + "land" + sign + "b" + sign + "shore" + sign + ";", 2);
            } else if (isLetter || isDigit || isSign(b)) {
                straitFault("land a;" + sign, 2, 7);
            } else {
                straitFault("land a;" + sign, 1, 7);
                straitFault("land" + sign + "a;", 1, 4);
            }
        }
    }

    private static void everyByteBehindANumber() {
        says("no letter directly behind an N");
        for (int b = 0; b < 256; b++) {
            String text = "dues 1" + (char) b;
            if (b >= 'a' && b <= 'z') {
                textFault(text, 1, 5);
                textFault(text + ";", 1, 5);
            } else if (b >= '0' && b <= '9') {
                textFault(text, 2, 7);
                textStands(text + ";", 1);
            } else if (b == ';') {
                textStands(text, 1);
            } else if (b == '(' || b == ')') {
                textFault(text, 2, 6);
            } else if (isSign(b) || isBlank(b)) {
                textFault(text, 2, 7);
            } else {
                textFault(text, 1, 6);
            }
        }
    }

    private static void everyByteBehindAWord() {
        says("each is as long as can be");
        for (int b = 0; b < 256; b++) {
            String text = "land a" + (char) b;
            if (b >= 'a' && b <= 'z') {
                straitFault(text, 2, 7);
                straitStands(text + ";", 1);
            } else if (b == ';') {
                straitStands(text, 1);
            } else if (b >= '0' && b <= '9' || isSign(b)) {
                straitFault(text, 2, 6);
            } else if (isBlank(b)) {
                straitFault(text, 2, 7);
                straitStands(text + ";", 1);
            } else {
                straitFault(text, 1, 6);
            }
        }
    }

    private static void asLongAsCanBe() {
        says("blanks part them or not; each is as long as can be");
        straitStands("cell depth9bend0flow0narrow;".replace("9b", "9 b").replace("0f", "0 f").replace("0n", "0 n"), 1);
        straitStands("land a;land b;", 2);
        straitFault("landa;", 2, 0);
        straitFault("land ashore;land ashore;", 3, 17);
        straitFault("narrowland a;", 1, 0);
        straitFault("celldept 9;", 2, 0);
        straitFault("cell depthx 9;", 2, 5);
        straitFault("cell depth 9 bendflow 0;", 2, 13);
        StraitHouse x = house("cell depth 12 bend 3 flow 4;");
        due("12 is one number", x.cell(0, 0), 12);
        straitFault("cell depth 1 2 bend 3 flow 4;", 2, 13);
        straitFault("la nd a;", 2, 0);
    }

    private static void noLetterBehindANumber() {
        says("no letter directly behind an N");
        straitStands("cell depth 9 bend 0 flow 0 narrow;", 1);
        straitStands("cell depth9 bend0 flow0;", 1);
        straitFault("cell depth 9bend 0 flow 0;", 1, 11);
        straitFault("cell depth 9 bend 0flow 0;", 1, 18);
        straitFault("cell depth 9 bend 0 flow 0narrow;", 1, 25);
        straitFault("cell depth 0099x bend 0 flow 0;", 1, 11);
        straitFault(CELL + "9a", 1, 27);
    }

    private static void wordsAreNoNames() {
        says("Words that stand for themselves here and in CONVENTIONS are no NAMES");
        due("words", RESERVED.length, 31);
        for (String word : RESERVED) {
            straitFault("land " + word + ";", 2, 5);
            straitFault("land " + word + " shore;", 2, 5);
            textFault("kind " + word + " is 1;", 2, 5);
            textFault("dues kind " + word + ";", 2, 10);
            textFault("dues land " + word + ";", 2, 10);
        }
    }

    private static void namesThatAreNearlyWords() {
        says("Words that stand for themselves are no NAMES (others are)");
        List<String> words = Arrays.asList(RESERVED);
        for (String word : RESERVED) {
            for (String name : new String[] {word.substring(1), word.substring(0, word.length() - 1), word + "a", "z" + word, word + "s"}) {
                if (!words.contains(name)) {
                    straitStands("land " + name + ";", 1);
                    textStands("kind " + name + " is 1;dues kind " + name + ";", 2);
                    straitFault(name + " a;", 2, 0);
                }
            }
        }
    }

    private static void cells() {
        says("At most 20 CELLS; a 21st CELL: 2 at its first word");
        for (int many = 19; many <= 20; many++) {
            StraitHouse x = house(times(CELL, many) + "land a;");
            due("cells", x.about(0), many);
            due("the last", x.cell(many - 1, 0), 9);
            due("none behind it", x.cell(many, 0), -1);
        }
        straitFault(times(CELL, 21), 2, 20 * 27);
        straitFault(times(CELL, 20) + "cell", 2, 20 * 27);
        straitFault(times(CELL, 20) + "cell ?", 2, 20 * 27);
        straitFault(times(CELL, 20) + "cell depth 100 bend 0 flow 0;", 2, 20 * 27);
        straitFault("land a;" + times(CELL, 20) + "land b shore;" + CELL, 2, 7 + 20 * 27 + 13);
        straitStands(times(CELL, 20) + "land a;land b;", 22);
    }

    private static void cellsOutOfRange() {
        says("numbered as they are told from the south sea to the north sea");
        StringBuilder text = new StringBuilder();
        for (int i = 0; i < 20; i++) {
            text.append("cell depth ").append(i + 10).append(" bend ").append(i % 10).append(i % 2 == 0 ? " flow " : " back ").append(i / 2);
            text.append(i % 3 == 0 ? " narrow;" : ";").append(i == 7 ? "land a;" : "");
        }
        StraitHouse x = house(text.toString());
        for (int i = 0; i < 20; i++) {
            due("depth of " + i, x.cell(i, 0), i + 10);
            due("bend of " + i, x.cell(i, 1), i % 10);
            due("current of " + i, x.cell(i, 2), i % 2 == 0 ? 10 + i / 2 : 10 - i / 2);
            due("narrow " + i, x.cell(i, 3), i % 3 == 0 ? 1 : 0);
        }
        due("none", x.cell(20, 0), -1);
        due("none", x.cell(-1, 0), -1);
    }

    private static void lands() {
        says("8 LANDS; a 9th LAND: 2 at its first word");
        String seven = EIGHT_LANDS.substring(0, 49);
        for (String text : new String[] {seven, EIGHT_LANDS}) {
            StraitHouse x = house(text);
            int many = text.length() / 7;
            due("lands", x.about(1), many);
            due("a ship of the last", x.ship(many - 1, 1, 10, 1, 0, 0, 0, false), 0);
            due("none behind it", x.ship(many, 1, 10, 1, 0, 0, 0, false), -1);
        }
        straitFault(EIGHT_LANDS + "land i;", 2, 56);
        straitFault(EIGHT_LANDS + "land a;", 2, 56);
        straitFault(EIGHT_LANDS + "land 9;", 2, 56);
        straitFault(EIGHT_LANDS + CELL + "land", 2, 56 + 27);
        straitStands(EIGHT_LANDS + CELL, 9);
    }

    private static void depths() {
        says("depth 1 .. 99");
        for (int depth : new int[] {0, 1, 2, 98, 99, 100, 101, 1000, 9999}) {
            String text = "cell depth " + depth + " bend 0 flow 0;";
            if (depth >= 1 && depth <= 99) {
                due("depth " + depth, house(text).cell(0, 0), depth);
            } else {
                straitFault(text, 4, 11);
            }
        }
        straitFault("cell depth 0000 bend 0 flow 0;", 4, 11);
    }

    private static void bends() {
        says("bend 0 .. 9");
        for (int bend : new int[] {0, 1, 8, 9, 10, 11, 99, 100, 9999}) {
            String text = "cell depth 9 bend " + bend + " flow 0;";
            if (bend <= 9) {
                due("bend " + bend, house(text).cell(0, 1), bend);
            } else {
                straitFault(text, 4, 18);
            }
        }
    }

    private static void currents() {
        says("flow: a current to the north, back: to the south, 0 .. 9");
        for (int current : new int[] {0, 1, 8, 9, 10, 11, 99, 100, 9999}) {
            String flow = "cell depth 9 bend 0 flow " + current + ";";
            String back = "cell depth 9 bend 0 back " + current + ";";
            if (current <= 9) {
                due("flow " + current, house(flow).cell(0, 2), 10 + current);
                due("back " + current, house(back).cell(0, 2), 10 - current);
            } else {
                straitFault(flow, 4, 25);
                straitFault(back, 4, 25);
            }
        }
    }

    private static void shoresAndNarrows() {
        says("[narrow], [shore]");
        due("narrow", house("cell depth 9 bend 0 flow 0 narrow;").cell(0, 3), 1);
        due("not narrow", house(CELL).cell(0, 3), 0);
        straitFault("cell depth 9 bend 0 flow 0 narrow narrow;", 2, 34);
        straitFault("cell depth 9 bend 0 narrow flow 0;", 2, 20);
        straitFault("cell depth 9 bend 0 flow narrow;", 2, 25);
        straitFault("land a shore shore;", 2, 13);
        straitFault("land shore a;", 2, 5);
        straitFault("land a narrow;", 2, 7);
        straitFault("cell depth 9 bend 0 flow 0 shore;", 2, 27);
        straitFault("cell depth 9 bend 0 flow 0 back 0;", 2, 27);
    }

    private static void firstByPlace() {
        says("FAULTS, the first by its place");
        straitFault("land a land ?", 2, 7);
        straitFault("land a ? land", 1, 7);
        straitFault("? ?", 1, 0);
        straitFault("cell depth 0 bend 10 flow 10; ?", 4, 11);
        straitFault("cell depth 1 bend 10 flow 10; ?", 4, 18);
        straitFault("cell depth 1 bend 9 flow 10; ?", 4, 25);
        straitFault("land a;land a;cell depth 0", 3, 12);
        straitFault("cell depth 0;land a;land a;", 4, 11);
        straitFault("land a;;land a;", 2, 7);
        straitFault("land a;cell 5 depth 0;?", 2, 12);
        straitFault("land a;land b;land a b c ?", 3, 19);
    }

    private static void leastAtOnePlace() {
        says("at one place the least");
        straitFault("cell depth 0bend", 1, 11);
        straitFault("cell depth 100a bend", 1, 11);
        straitFault("cell depth 00000 bend", 1, 11);
        straitFault("land 5a;", 1, 5);
        straitFault("land a;land a?;", 3, 12);
        straitFault("land a;land ?a;", 1, 12);
        straitFault("land abcdefghi;", 1, 5);
        straitFault(EIGHT_LANDS + "landlands a;", 1, 56);
    }

    private static void theEnd() {
        says("the end: the text's length");
        String[] cell = "cell depth 9 bend 0 flow 0 narrow".split(" ");
        for (int tokens = 1; tokens <= cell.length; tokens++) {
            String text = String.join(" ", Arrays.copyOf(cell, tokens));
            straitFault(text, 2, text.length());
            straitFault(text + " ", 2, text.length() + 1);
            straitFault(text + "\n \n", 2, text.length() + 3);
        }
        for (String text : new String[] {"land", "land a", "land a shore", "land a;land", "land a;land b", "land a;land b shore"}) {
            straitFault(text, 2, text.length());
            straitFault(text + "  ", 2, text.length() + 2);
        }
    }

    private static void whatCantStandThere() {
        says("2 one that can't stand there");
        String[] line = "cell depth 9 bend 0 flow 0 ;".split(" ");
        for (int at = 0; at < line.length; at++) {
            for (String other : new String[] {"cell", "depth", "bend", "flow", "back", "narrow", "land", "shore", "ana", "5", ";", "(", "*", "tons", "kind"}) {
                boolean likeIt = other.equals(line[at]) || other.equals("5") && line[at].matches("\\d") || at == 5 && other.equals("back");
                boolean mayBeNarrow = at == 7 && other.equals("narrow");
                boolean mayBeLand = at == 0 && other.equals("land");
                if (!likeIt && !mayBeNarrow && !mayBeLand) {
                    String[] changed = line.clone();
                    changed[at] = other;
                    String ahead = String.join(" ", Arrays.copyOf(line, at));
                    straitFault(String.join(" ", changed), 2, at == 0 ? 0 : ahead.length() + 1);
                }
            }
        }
        for (String word : RESERVED) {
            if (!word.equals("cell") && !word.equals("land")) {
                straitFault("land a;" + word, 2, 7);
            }
        }
    }

    private static void namesToldAlready() {
        says("3 a NAME told already");
        straitFault("land a;land a;", 3, 12);
        straitFault("land a;land b;land c;land b;", 3, 26);
        straitFault("land a shore;land a;", 3, 18);
        straitFault("land abcdefgh;land abcdefgh;", 3, 19);
        straitFault("land a;land b;land c;land d;land e;land f;land g;land a;", 3, 54);
        straitFault("land a;land b;land c;land d;land e;land f;land g;land g;", 3, 54);
        straitStands("land abcdefgh;land abcdefgi;land bbcdefgh;land abcdefg;land a;land aa;land aaa;land ba;", 8);
        StraitHouse x = house("land a;land b;");
        due("names of the strait before are told no more", strait(x, "land b;land a;"), 2);
        due("a text with a fault tells none", strait(x, "land c;land c;") + strait(x, "land c;"), 0);
    }

    // ---- promise 4 ----

    private static void straitMakesAllNew() {
        says("The TAPE (empty then) is THE STRAIT (SHELVES are empty, SHIPS, FACTS, SIGHTINGS none then): how many lines");
        StraitHouse x = full();
        x.end(0);
        due("what was", x.plan(0, 10, 0, 7) + x.inside(0, 10, 1, 7) + x.year(0, 0, 7), 3 + x.dues(0, 0, 7) + x.dues(0, 2, 7) + x.dues(0, 5, 7));
        due("lines", strait(x, "cell depth 40 bend 3 back 2;land p;"), 2);
        due("is no more", x.plan(0, 10, 0, 7) + x.inside(0, 10, 1, 7) + x.year(0, 0, 7), 0);
        int[] due = {1, 1, 0, 0, 0, 7, 0};
        for (int what = 0; what < due.length; what++) {
            due("about(" + what + ")", x.about(what), due[what]);
        }
        for (int shelf = 0; shelf < 4; shelf++) {
            due("the shelf is empty", x.about(10 + shelf), 0);
        }
        due("it has one cell", x.cell(0, 0), 40);
        due("and no other", x.cell(1, 0), -1);
        due("no ship", x.kind(0, 0), -1);
        due("no fact", x.reason(0, 0, 7), -1);
        due("no case", x.peace(999, 7), 0);
        due("no sighting", x.could(0, 0, 7), -1);
        due("its shelf has no sum", x.ship(0, 9999, 10, 1, 0, 0, 0, true), 0);
        due("it has no may line", x.reason(0, x.ask(0, 10, true, 99), 7), 4);
        due("nor notice", x.reason(0, x.ask(0, 11, true, 0), 7), 4);
        due("new facts have numbers from 0 on", x.about(3), 2);
        due("new sightings, too", x.sight(10, 0, true, -1), 0);
        due("the shelves part no more", x.part(0, 1, 0), -2);
        due("an empty text is one, too", x.strait(), 0);
        due("no cell", x.about(0), 0);
        due("no land", x.about(1), 0);
        due("no ship", x.about(2), 0);
    }

    private static void factsOfOldStraits() {
        says("FACTS, SIGHTINGS none then");
        StraitHouse x = house("land a; land b;", "may war if 1;");
        x.ship(0, 5, 10, 1, 0, 0, 0, true);
        for (int i = 0; i < 3; i++) {
            x.turn(0, 2);
            x.ask(0, i, i != 1, 0);
            x.sight(0, i, true, -1);
        }
        due("it was war", x.peace(0, 0), 2);
        due("it was inside", x.inside(0, 0, 1, 0), 1);
        due("it was in the plan", x.plan(0, 0, 0, 0), 1);
        due("of three sightings it was one", x.readings(0, 0, 0), 0);
        strait(x, "land a; land b;");
        due("a shelf anew", convention(x, 0, "may peace if 1; may war if 1;"), 2);
        due("no war", x.peace(999, 0), 0);
        due("no reading but that of none", x.readings(0, 0, 0), 1);
        due("a ship", x.ship(1, 6, 10, 1, 0, 0, 0, true), 0);
        due("none is inside", x.inside(0, 999, 1, 0), 0);
        for (int i = 0; i < 3; i++) {
            due("asks", x.ask(0, i, i != 1, 0), i);
            due("in peace", x.why(0, i, 0), 0);
            due("sightings", x.sight(0, i, true, -1), i);
            due("those of now", x.readings(0, 0, 0), i == 0 ? 1 : 0);
            due("no day but that of now", x.plan(0, i + 1, 0, 0), 0);
        }
    }

    private static void gorgesOfOldStraits() {
        says("The TAPE is THE STRAIT");
        StraitHouse x = new StraitHouse();
        String narrow = "cell depth 9 bend 0 flow 0 narrow;";
        int[] narrows = {3, 0, 0, 2, 1, 0, 0, 3, 3, 1};
        for (int many : narrows) {
            due("lines", strait(x, CELL + times(narrow, many) + "land a" + (many == 2 ? " shore;" : ";")), 2 + many);
            convention(x, 0, "may peace if 1; dues 5 + shore;");
            x.ship(0, 1, 10, 1, 0, 0, 0, false);
            x.ask(0, 5, true, 0);
            due("cells", x.about(0), 1 + many);
            due("its gorge", x.plan(0, 5, 2, 0), many == 0 ? 0 : 6 + 6 * many);
            due("its lands", x.dues(0, 0, 0), many == 2 ? 6 : 5);
        }
    }

    private static void straitWithAFault() {
        says("NONE: a FAULT (all stays)");
        for (String text : new String[] {"land", "land a;land a;", "cell depth 100 bend 0 flow 0;", "?", times(CELL, 20) + CELL}) {
            StraitHouse x = full();
            StraitHouse same = full();
            x.end(0);
            same.end(0);
            due("strait", strait(x, text), -1);
            due("the tape is empty then", x.about(6), 0);
            String was = look(same);
            String is = look(x);
            due("all stays", is.substring(is.indexOf("cells")), was.substring(was.indexOf("cells")));
            due("all stays", is.substring(0, is.indexOf("fault")), was.substring(0, was.indexOf("fault")));
            due("all stays", lookOn(x), lookOn(same));
        }
    }
}
