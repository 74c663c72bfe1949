import java.nio.charset.StandardCharsets;
import java.nio.ByteBuffer;
import java.util.Arrays;

/** For each promise of the document what is due by its words: ordinary inputs, edges, wrong inputs. */
public final class PromiseTests {
    private static final int MIN = Integer.MIN_VALUE;
    private static final int MAX = Integer.MAX_VALUE;
    private static final String STRAIT = "cell depth 20 bend 2 flow 1; cell depth 15 bend 5 flow 2 narrow; cell depth 12 bend 1 back 3 narrow;"
            + "cell depth 30 bend 0 flow 0; land ana shore; land bor; land cid;";
    private static int wrong;
    private static int promise;

    public static void main(String[] args) {
        promise1NewObject();
        promise2Feed();
        promise3End();
        promise4Strait();
        promise4OldThingsAreGone();
        promise4StraitFaults();
        promise5Convention();
        promise5ConventionFaults();
        promise5Bounds();
        promise5Values();
        promise5OldTextsAreGone();
        promise6Fault();
        promise7Ship();
        promise8Cell();
        promise9Hits();
        promise10Minutes();
        promise11Kind();
        promise12Turn();
        promise13Ask();
        promise14Untell();
        promise15Later();
        promise16Peace();
        promise17Reason();
        promise17InOrder();
        promise18Why();
        promise19Inside();
        promise20Dues();
        promise21Year();
        promise22Gaps();
        promise23Plan();
        promise23ManyOnADay();
        promise24Goes();
        promise25Sight();
        promise26Unsight();
        promise27Readings();
        promise28Could();
        promise29Oil();
        promise30Part();
        promise31About();
        System.out.println(wrong == 0 ? "all promises hold" : wrong + " answers are not as due");
        if (wrong != 0) {
            System.exit(1);
        }
    }

    private static void due(String what, long got, long want) {
        if (got != want) {
            wrong++;
            System.out.println("promise " + promise + ": " + what + " answered " + got + ", due is " + want);
        }
    }

    private static void due(String what, boolean got, boolean want) {
        due(what, got ? 1 : 0, want ? 1 : 0);
    }

    // ---- helpers ----

    private static void put(StraitHouse x, String text) {
        byte[] bytes = Arrays.copyOf(text.getBytes(StandardCharsets.ISO_8859_1), (text.length() + 19) / 20 * 20);
        ByteBuffer n = ByteBuffer.wrap(bytes);
        int before = x.about(6);
        while (n.hasRemaining()) {
            x.feed(n.getInt(), n.getInt(), n.getInt(), n.getInt(), n.getInt());
        }
        x.end(before + text.length());
    }

    private static int strait(StraitHouse x, String text) {
        put(x, text);
        return x.strait();
    }

    private static int convention(StraitHouse x, int shelf, String text) {
        put(x, text);
        return x.convention(shelf);
    }

    private static StraitHouse house(String strait, String... conventions) {
        StraitHouse x = new StraitHouse();
        due("strait", strait(x, strait) >= 0, true);
        for (int i = 0; i < conventions.length; i++) {
            due("convention " + conventions[i], convention(x, i, conventions[i]) >= 0, true);
        }
        return x;
    }

    private static void straitFault(String text, int code, int place) {
        StraitHouse x = new StraitHouse();
        due("strait [" + text + "]", strait(x, text), -1);
        due("its fault [" + text + "]", x.fault(0), code);
        due("its place [" + text + "]", x.fault(1), place);
    }

    private static void textFault(String text, int code, int place) {
        StraitHouse x = house(STRAIT);
        due("convention [" + text + "]", convention(x, 0, text), -1);
        due("its fault [" + text + "]", x.fault(0), code);
        due("its place [" + text + "]", x.fault(1), place);
    }

    private static void textStands(String text, int lines) {
        StraitHouse x = house(STRAIT);
        due("convention [" + text + "]", convention(x, 0, text), lines);
        due("its fault", x.fault(0), 0);
    }

    /** The place of a word's n-th coming (from 1 on) in a text. */
    private static int placeOf(String text, String word, int n) {
        int at = -1;
        for (int i = 0; i < n; i++) {
            at = text.indexOf(word, at + 1);
        }
        return at;
    }

    /** The value of an e, told by DUES of a PASSAGE: 5,000 is added, so that numbers below 0 can be seen. */
    private static int value(String e) {
        StraitHouse x = house(STRAIT, "kind big is tons > 40; kind small is 1; may peace if 1; dues ( " + e + " ) + 5000;");
        x.ship(1, 50, 201, 7, 5, 3, 9, true);
        x.ask(0, 12, true, 34);
        return x.dues(0, 0, 0) - 5000;
    }

    private static String times(String piece, int n) {
        return piece.repeat(n);
    }

    // ---- the promises ----

    private static void promise1NewObject() {
        promise = 1;
        StraitHouse x = new StraitHouse();
        for (int what = 0; what <= 6; what++) {
            due("about(" + what + ")", x.about(what), 0);
        }
        for (int shelf = 0; shelf < 4; shelf++) {
            due("lines", x.about(10 + shelf), 0);
            due("inside", x.inside(shelf, 999, 0, 0), 0);
            due("plan", x.plan(shelf, 0, 2, 0), 0);
            due("readings", x.readings(shelf, 0, 0), 1);
            due("year", x.year(shelf, 2, 0), 0);
        }
        due("fault", x.fault(0), 0);
        due("place", x.fault(1), -1);
        due("ship", x.ship(0, 1, 10, 1, 0, 0, 0, false), -1);
        due("part", x.part(0, 1, 0), -2);
        due("NONE", StraitHouse.NONE, -1);
    }

    private static void promise2Feed() {
        promise = 2;
        StraitHouse x = new StraitHouse();
        for (int i = 1; i <= 60; i++) {
            due("feed", x.feed(0x20202020, 0x20202020, 0x20202020, 0x20202020, 0x20202020), 20 * i);
        }
        due("feed beyond", x.feed(1, 2, 3, 4, 5), -1);
        due("bytes", x.about(6), 1200);
        due("strait of blanks", x.strait(), 0);
        x.feed(0x20202020, 0x20202020, 0x20202020, 0x20202020, 0x20202020);
        x.end(1);
        for (int i = 0; i < 59; i++) {
            x.feed(0, 0, 0, 0, 0);
        }
        due("1,181 bytes", x.about(6), 1181);
        due("feed beyond", x.feed(0, 0, 0, 0, 0), -1);
        due("end", x.end(1180), 1180);
        due("feed to 1,200", x.feed(0, 0, 0, 0, 0), 1200);
        x = new StraitHouse();
        // "land" "ab;l" "and " "c;la" "nd d", then a byte above 127
        x.feed(0x6c616e64, 0x61623b6c, 0x616e6420, 0x633b6c61, 0x6e642064);
        x.feed(0x3bffffff, -1, -1, -1, -1);
        x.end(22);
        due("strait", x.strait(), -1);
        due("a byte of 255 is no token", x.fault(0), 2);
        due("landab is no word of a line", x.fault(1), 0);
        x.feed(0x0a6c616e, 0x64206162, 0x3b6c616e, 0x6420633b, 0xff000000);
        due("strait", x.strait(), -1);
        due("a byte of 255 is no token", x.fault(0), 1);
        due("its place", x.fault(1), 16);
    }

    private static void promise3End() {
        promise = 3;
        StraitHouse x = new StraitHouse();
        due("end(0)", x.end(0), 0);
        due("end(1)", x.end(1), -1);
        x.feed(0x6c616e64, 0x20612020, 0x3b202020, 0x3f3f3f3f, 0x3f3f3f3f);
        due("end(21)", x.end(21), -1);
        due("end(-1)", x.end(-1), -1);
        due("end(MIN)", x.end(MIN), -1);
        due("end(MAX)", x.end(MAX), -1);
        due("bytes", x.about(6), 20);
        due("end(20)", x.end(20), 20);
        due("end(12)", x.end(12), 12);
        due("end(13)", x.end(13), -1);
        due("bytes", x.about(6), 12);
        due("strait", x.strait(), 1);
    }

    private static void promise4Strait() {
        promise = 4;
        StraitHouse x = house(STRAIT, "may peace if 1;", "stay 3;");
        due("tape is empty then", x.about(6), 0);
        x.ship(0, 1, 10, 1, 0, 0, 0, false);
        x.ask(0, 0, true, 0);
        x.sight(0, 0, true, -1);
        x.later(5);
        x.gaps(20, 40);
        due("a fault", strait(x, "cell;"), -1);
        due("tape is empty then", x.about(6), 0);
        int[] stays = {4, 3, 1, 1, 1, 5, 0};
        for (int i = 0; i < stays.length; i++) {
            due("all stays " + i, x.about(i), stays[i]);
        }
        due("the shelf stays", x.about(10), 1);
        due("reason stays", x.reason(0, 0, 5), 0);
        due("a new one", strait(x, "land\nb\nshore;land c;cell depth1 bend0 flow0 narrow;cell depth 0099 bend 9 back 9;"), 4);
        int[] goes = {2, 2, 0, 0, 0, 5, 0};
        for (int i = 0; i < goes.length; i++) {
            due("all is new " + i, x.about(i), goes[i]);
        }
        due("the shelves are empty", x.about(10) + x.about(11), 0);
        due("fact", x.untell(0), false);
        due("sighting", x.unsight(0), false);
        due("ship", x.ship(0, 1, 10, 1, 0, 0, 0, false), 0);
        due("fact number", x.ask(0, 0, true, 0), 0);
        due("no may line any more", x.reason(0, 0, 5), 2);
        due("an empty one", strait(x, ""), 0);
        due("cells", x.about(0), 0);
        String twenty = times("cell depth 9 bend 0 flow 0;", 20);
        due("20 cells and 8 lands", strait(x, twenty + "land a;land b;land c;land d;land e;land f;land g;land abcdefgh;"), 28);
    }

    private static void promise4OldThingsAreGone() {
        promise = 4;
        String gorge = "cell depth 30 bend 0 flow 0; cell depth 30 bend 0 flow 0 narrow; land a shore;";
        StraitHouse x = new StraitHouse();
        for (int i = 0; i < 3; i++) {
            strait(x, gorge);
            convention(x, 0, "may peace if 1; dues 7;");
            x.ship(0, 1, 10, 1, 0, 0, 0, false);
            x.ask(0, 5, true, 0);
            x.sight(5, 6, true, -1);
            x.gaps(10, 0);
            due("a plan", x.plan(0, 5, 2, 0), 12);
            due("its dues", x.year(0, 0, 0), 7);
            due("its sighting", x.could(0, 0, 0), 1);
            due("a new strait", strait(x, "cell depth 30 bend 0 flow 0; land a;"), 2);
            due("no plan any more", x.plan(0, 5, 0, 0), 0);
            due("no dues any more", x.year(0, 0, 0), 0);
            due("no sighting any more", x.readings(0, 5, 0), 1);
            convention(x, 0, "may peace if not shore;");
            x.ship(0, 1, 10, 1, 0, 0, 0, false);
            x.ask(0, 5, true, 0);
            due("let", x.plan(0, 5, 0, 0), 1);
            due("without a gorge", x.plan(0, 5, 2, 0), 0);
            due("without a gorge", x.goes(0, 5, 0, 2, 0), 0);
            strait(x, "cell depth 30 bend 0 flow 0; land a;");
            convention(x, 0, "may peace if not shore;");
            x.ship(0, 1, 10, 1, 0, 0, 0, false);
            x.ask(0, 5, true, 0);
            due("without a gorge still", x.plan(0, 5, 2, 0), 0);
            due("begins", x.goes(0, 5, 0, 2, 0), 0);
        }
    }

    private static void promise4StraitFaults() {
        promise = 4;
        straitFault("cell depth ;", 2, 11);
        straitFault("cell depth 5 bend 1 flow;", 2, 24);
        straitFault(times(";", 1200), 2, 0);
        straitFault(times(" ", 1199) + "?", 1, 1199);
        straitFault(times(" ", 1196) + "land", 2, 1200);
        straitFault("?", 1, 0);
        straitFault("land a;\t", 1, 7);
        straitFault("land A;", 1, 5);
        straitFault("land abcdefghi;", 1, 5);
        straitFault("cell depth 10000 bend 1 flow 1;", 1, 11);
        straitFault("cell depth 5bend 1 flow 1;", 1, 11);
        straitFault("cell depth 5? bend 1 flow 1;", 1, 12);
        straitFault("land", 2, 4);
        straitFault("land  \n", 2, 7);
        straitFault("land a", 2, 6);
        straitFault("land shore;", 2, 5);
        straitFault("land a shore narrow;", 2, 13);
        straitFault("land a;; ?", 2, 7);
        straitFault("land 5;", 2, 5);
        straitFault("river;", 2, 0);
        straitFault("cell depth 5 bend 1 flow 1 narrow narrow;", 2, 34);
        straitFault("cell depth 5 bend 1 narrow;", 2, 20);
        straitFault("cell bend 5;", 2, 5);
        straitFault("cell depth;", 2, 10);
        String[] reserved = ("cell depth bend flow back narrow land shore kind is may if peace threat war sum each stay notice dues and or not "
                + "tons length draft guns decks load north day").split(" ");
        for (String word : reserved) {
            straitFault("land " + word + ";", 2, 5);
        }
        straitFault("land a;land b;land a;", 3, 19);
        straitFault("land a;land a?", 3, 12);
        straitFault("cell depth 0 bend 1 flow 1;", 4, 11);
        straitFault("cell depth 100 bend 1 flow 1;", 4, 11);
        straitFault("cell depth 99 bend 10 flow 1;", 4, 19);
        straitFault("cell depth 99 bend 9 flow 10;", 4, 26);
        straitFault("cell depth 99 bend 9 back 10;", 4, 26);
        String cell = "cell depth 9 bend 0 flow 0;";
        straitFault(times(cell, 21), 2, 20 * cell.length());
        straitFault("land a;land b;land c;land d;land e;land f;land g;land h;land a;", 2, 56);
    }

    private static void promise5Convention() {
        promise = 5;
        StraitHouse x = house(STRAIT);
        put(x, "sum 1;");
        due("no such shelf", x.convention(4), -2);
        due("no such shelf", x.convention(-1), -2);
        due("no such shelf", x.convention(MIN), -2);
        due("the tape stays", x.about(6), 6);
        due("shelf 3", x.convention(3), 1);
        due("tape is empty then", x.about(6), 0);
        due("lines", x.about(13), 1);
        due("a fault", convention(x, 3, "sum 1; sum 2;"), -1);
        due("the shelf stays", x.about(13), 1);
        due("tape is empty then", x.about(6), 0);
        due("empty", convention(x, 3, " "), 0);
        due("lines", x.about(13), 0);
        textStands("kind a is 1;kind b is kind a;kind ana is land ana;may peace if kind b;may threat if 1;may war if 1;"
                + "sum 9999;each 0;stay 99;notice 99;dues north+notice*day-kind b;", 11);
    }

    private static void promise5ConventionFaults() {
        promise = 5;
        textFault("sum 1; $", 1, 7);
        textFault("dues 1 ! 2;", 1, 7);
        textFault("dues 12tons;", 1, 5);
        textFault("dues 1", 2, 6);
        textFault("cell depth 5;", 2, 0);
        textFault("kind is is 1;", 2, 5);
        textFault("kind a 1;", 2, 7);
        textFault("kind a is ;", 2, 10);
        textFault("may shore if 1;", 2, 4);
        textFault("may peace 1;", 2, 10);
        textFault("sum tons;", 2, 4);
        textFault("sum;", 2, 3);
        textFault("may peace if;", 2, 12);
        textFault("sum 1 + 1;", 2, 6);
        textFault("dues 1 < 2 < 3;", 2, 11);
        textFault("dues 1 + not 1;", 2, 9);
        textFault("dues 1 < not 1;", 2, 9);
        textFault("dues - 1;", 2, 5);
        textFault("dues ( 1;", 2, 8);
        textFault("dues 1 );", 2, 7);
        textFault("dues ( );", 2, 7);
        textFault("dues 1 2;", 2, 7);
        textFault("dues kind;", 2, 9);
        textFault("dues kind war;", 2, 10);
        textFault("dues land 5;", 2, 10);
        textFault("dues sum;", 2, 5);
        textFault("dues ana;", 2, 5);
        textFault("dues and 1;", 2, 5);
        textFault("dues 1 and;", 2, 10);
        textFault("dues 1; dues 2;", 2, 8);
        textFault("sum 1; sum 1;", 2, 7);
        textFault("each 1; each 1;", 2, 8);
        textFault("stay 1; stay 100;", 2, 8);
        textFault("notice 1; notice 1;", 2, 10);
        textFault("kind a is 1; kind a is 2;", 3, 18);
        textFault("stay 100;", 4, 5);
        textFault("notice 100;", 4, 7);
        textFault("dues kind a;", 5, 10);
        textFault("dues land nor;", 5, 10);
        textFault("dues kind ana;", 5, 10);
        textFault("kind a is kind a;", 5, 15);
        textFault("may peace if kind a; kind a is 1;", 5, 18);
        textFault("kind a is north;", 6, 10);
        textFault("kind a is 1 or (notice > 1);", 6, 16);
        textFault("kind a is day;", 6, 10);
    }

    private static void promise5Bounds() {
        promise = 5;
        String kinds = "kind a is 1;kind b is 1;kind c is 1;kind d is 1;kind e is 1;kind f is 1;";
        textStands(kinds, 6);
        textFault(kinds + "kind g is 1;", 2, kinds.length());
        textStands(times("may war if 1;", 8), 8);
        textFault(times("may war if 1;", 9), 2, 8 * 13);
        textStands("dues 1" + times("+1", 99) + ";", 1);
        textFault("dues 1" + times("+1", 100) + ";", 2, 5 + 200);
        textStands("dues (1" + times("+1", 98) + ");", 1);
        textFault("dues (1" + times("+1", 99) + ");", 2, 6 + 198);
        textFault("dues 1" + times("+1", 99) + "+(1);", 2, 5 + 200);
        // The units of all lines count together, kind NAME and land NAME as one; the N of sum is none.
        textStands("sum 5;kind a is 1;dues kind a" + times("+land ana", 98) + ";", 3);
        textFault("kind a is 1;dues kind a" + times("+land ana", 98) + "+kind a;", 2, 23 + 98 * 9 + 1);
        String full = "may peace if 1" + times("+1", 97) + ";";
        textFault(full + "kind a is 1;kind b is 1;kind c is north;", 2, full.length() + 34);
        textStands("dues " + times("(", 7) + "1" + times(")", 7) + ";", 1);
        textFault("dues " + times("(", 8) + "1" + times(")", 8) + ";", 2, 5 + 7);
        for (String line : new String[] {"kind a is ", "may war if "}) {
            textStands(line + times("(", 7) + "1" + times(")", 7) + ";", 1);
            textFault(line + times("(", 8) + "1" + times(")", 8) + ";", 2, line.length() + 7);
        }
        textStands("dues " + times("not ", 7) + "1;", 1);
        textFault("dues " + times("not ", 8) + "1;", 2, 5 + 28);
        textStands("dues " + times("not(", 3) + "not 1" + times(")", 3) + ";", 1);
        textFault("dues " + times("not(", 3) + "not not 1" + times(")", 3) + ";", 2, 5 + 16);
        textFault("dues " + times("not(", 4) + "1" + times(")", 4) + ";", 2, 5 + 15);
        textStands("dues " + times("(", 7) + "1" + times(")", 7) + "+" + times("(", 7) + "1" + times(")", 7) + ";", 1);
        textStands("dues " + times("not ", 7) + "1 and " + times("not ", 7) + "1;", 1);
        textStands("dues " + times("not not not not not not not 1 or ", 34) + "1;", 1);
    }

    private static void promise5Values() {
        promise = 5;
        due("numbers", value("0042"), 42);
        due("sum", value("10 - 3 - 2"), 5);
        due("term", value("2 + 3 * 4"), 14);
        due("term", value("(2 + 3) * 4"), 20);
        due("minus", value("1 - 2 * 3"), -5);
        due("wraps", value("9999 * 9999 * 9999 = 9999 * 9999 * 9999 + 0"), 1);
        due("wraps below 0", value("9999 * 9999 * 30 < 0"), 1);
        due("less", value("1 < 2"), 1);
        due("less", value("2 < 2"), 0);
        due("more", value("3 > 2"), 1);
        due("more", value("2 > 2"), 0);
        due("same", value("2 = 1 + 1"), 1);
        due("same", value("2 = 1"), 0);
        due("and", value("7 and 5"), 1);
        due("and", value("7 and 0"), 0);
        due("or", value("0 or 5"), 1);
        due("or", value("0 or 0"), 0);
        due("or behind and", value("1 or 0 and 0"), 1);
        due("and ahead of or", value("0 and 0 or 1"), 1);
        due("not", value("not 7"), 0);
        due("not", value("not 0"), 1);
        due("not not", value("not not 7"), 1);
        due("not of a relation", value("not 1 = 0"), 1);
        due("not ends at and", value("not 0 and 0"), 0);
        due("not ends at or", value("not 1 or 1"), 1);
        due("relations are numbers", value("(1 < 2) + (2 < 3)"), 2);
        due("tons", value("tons"), 50);
        due("length", value("length"), 201);
        due("draft", value("draft"), 7);
        due("guns", value("guns"), 5);
        due("decks", value("decks"), 3);
        due("load", value("load"), 9);
        due("war", value("war"), 1);
        due("shore", value("shore"), 0);
        due("north", value("north"), 1);
        due("notice", value("notice"), 34);
        due("day", value("day"), 12);
        due("its land", value("land bor"), 1);
        due("another land", value("land ana"), 0);
        due("its kind", value("kind big"), 1);
        due("a later kind that holds, too", value("kind small"), 0);
        StraitHouse x = house(STRAIT, "may peace if 1; dues shore * 2 + north + war * 4;");
        x.ship(0, 50, 100, 5, 0, 0, 0, false);
        x.ask(0, 0, true, 0);
        x.ask(0, 1, false, 0);
        due("north, of a shore", x.dues(0, 0, 0), 3);
        due("south, of a shore", x.dues(0, 1, 0), 2);
    }

    private static void promise5OldTextsAreGone() {
        promise = 5;
        StraitHouse x = house(STRAIT);
        x.ship(1, 9999, 100, 5, 0, 0, 0, true);
        x.ship(1, 1, 100, 5, 0, 0, 0, true);
        x.ask(0, 0, true, 0);
        x.ask(1, 0, true, 0);
        String full = "kind a is 1; may peace if 1; sum 1; each 1; stay 0; notice 50; dues 5" + times("+1", 97) + ";";
        for (int i = 0; i < 12; i++) {
            due("a full text", convention(x, 0, full), 7);
            due("its notice", x.reason(0, 0, 0), 3);
            due("its kind", x.kind(0, 0), 0);
            due("another", convention(x, 0, "may peace if 1;"), 1);
            due("notice 0 if not told", x.reason(0, 0, 0), 0);
            due("sum 9999 if not told", x.reason(0, 1, 0), 5);
            due("dues 0 if not told", x.dues(0, 0, 0), 0);
            due("stay 99 if not told", x.inside(0, 99, 2, 0), 0);
            due("no kind", x.kind(0, 0), -1);
            due("none", convention(x, 0, "dues 1;"), 1);
            due("no may line", x.reason(0, 0, 0), 4);
        }
        x = house(STRAIT, "kind none is 0; kind big is tons > 40; kind gun is guns > 0; may peace if kind big or kind gun; dues kind big * 2 + kind gun;");
        x.ship(0, 50, 100, 5, 9, 0, 0, false);
        x.ship(0, 30, 100, 5, 9, 0, 0, false);
        x.ship(0, 30, 100, 5, 0, 0, 0, false);
        for (int i = 0; i < 3; i++) {
            x.ask(i, 0, true, 0);
        }
        due("kind big", x.dues(0, 0, 0), 2);
        due("kind gun", x.dues(0, 1, 0), 1);
        due("no kind", x.reason(0, 2, 0), 4);
    }

    private static void promise6Fault() {
        promise = 6;
        StraitHouse x = new StraitHouse();
        due("at first", x.fault(0), 0);
        due("at first", x.fault(1), -1);
        strait(x, "land a a;");
        due("code", x.fault(0), 2);
        due("place", x.fault(1), 7);
        x.convention(9);
        due("-2 changes nothing", x.fault(0), 2);
        due("-2 changes nothing", x.fault(1), 7);
        convention(x, 1, "stay 100;");
        due("code", x.fault(0), 4);
        due("place", x.fault(1), 5);
        due("another what", x.fault(2), -1);
        due("another what", x.fault(-1), -1);
        due("another what", x.fault(MIN), -1);
        strait(x, "land a;");
        due("no fault", x.fault(0), 0);
        due("no place", x.fault(1), -1);
        convention(x, 1, "stay 100;");
        convention(x, 1, "stay 99;");
        due("no fault", x.fault(0), 0);
    }

    private static void promise7Ship() {
        promise = 7;
        StraitHouse x = house(STRAIT);
        int[] low = {0, 0, 10, 1, 0, 0, 0};
        int[] high = {2, 9999, 400, 30, 20, 5, 9};
        int[] a = {1, 50, 100, 5, 1, 1, 1};
        for (int i = 0; i < 7; i++) {
            for (int bad : new int[] {low[i] - 1, high[i] + 1, MIN, MAX}) {
                int[] b = a.clone();
                b[i] = bad;
                due("ship" + Arrays.toString(b), x.ship(b[0], b[1], b[2], b[3], b[4], b[5], b[6], true), -1);
            }
        }
        due("none was made", x.about(2), 0);
        due("the least", x.ship(0, 0, 10, 1, 0, 0, 0, false), 0);
        due("the greatest", x.ship(2, 9999, 400, 30, 20, 5, 9, true), 1);
        for (int i = 2; i < 20; i++) {
            due("a number", x.ship(1, 50, 100, 5, 1, 1, 1, true), i);
        }
        due("a 21st", x.ship(1, 50, 100, 5, 1, 1, 1, true), -1);
        due("20 ships", x.inside(0, 999, 1, 0), 0);
        due("the last one", x.hits(19, true), -1);
        due("ships", x.about(2), 20);
    }

    private static void promise8Cell() {
        promise = 8;
        StraitHouse x = house(STRAIT);
        int[][] due = {{20, 2, 11, 0}, {15, 5, 12, 1}, {12, 1, 7, 1}, {30, 0, 10, 0}};
        for (int c = 0; c < 4; c++) {
            for (int what = 0; what < 4; what++) {
                due("cell(" + c + ", " + what + ")", x.cell(c, what), due[c][what]);
            }
            due("another what", x.cell(c, 4), -1);
            due("another what", x.cell(c, -1), -1);
        }
        due("no cell", x.cell(4, 0), -1);
        due("no cell", x.cell(-1, 0), -1);
        due("no cell", x.cell(MAX, 0), -1);
    }

    private static void promise9Hits() {
        promise = 9;
        StraitHouse x = house("cell depth 10 bend 0 flow 0;cell depth 30 bend 5 flow 2;cell depth 30 bend 3 back 6;cell depth 10 bend 0 flow 0;land a;");
        x.ship(0, 1, 280, 9, 0, 0, 0, false);
        due("1400 and 100 is not above 1500", x.hits(0, true), -1);
        due("840 and 300", x.hits(0, false), -1);
        x.ship(0, 1, 281, 9, 0, 0, 0, false);
        due("1405 and 100", x.hits(1, true), 1);
        due("a current against it is 0", x.hits(1, false), -1);
        x.ship(0, 1, 100, 10, 0, 0, 0, false);
        due("draft is above depth less 1", x.hits(2, true), 0);
        due("the first on its way", x.hits(2, false), 3);
        x.ship(0, 1, 400, 5, 0, 0, 0, false);
        due("1200 and 300 is not above", x.hits(3, false), 1);
        due("north", x.hits(3, true), 1);
        due("no ship", x.hits(4, true), -1);
        due("no ship", x.hits(-1, true), -1);
        x = house("cell depth 99 bend 5 back 5;cell depth 99 bend 7 flow 3;land a;");
        x.ship(0, 1, 300, 5, 0, 0, 0, false);
        due("1500 and none of what runs against it", x.hits(0, true), 1);
        x.ship(0, 1, 193, 5, 0, 0, 0, false);
        due("1501", x.hits(1, true), 1);
        x.ship(0, 1, 192, 5, 0, 0, 0, false);
        due("1494", x.hits(2, true), -1);
        x = house("cell depth 99 bend 3 back 7;land a;");
        x.ship(0, 1, 384, 5, 0, 0, 0, false);
        due("1152 and 350 going south", x.hits(0, false), 0);
        due("1152 going north", x.hits(0, true), -1);
    }

    private static void promise10Minutes() {
        promise = 10;
        StraitHouse x = house("cell depth 99 bend 0 flow 9;cell depth 99 bend 0 back 2;cell depth 99 bend 0 flow 6;land a;");
        x.ship(0, 1, 99, 1, 0, 0, 0, false);
        x.ship(0, 1, 400, 1, 0, 0, 0, false);
        due("1 at least", x.minutes(0, 0, true), 1);
        due("against", x.minutes(0, 0, false), 15);
        due("6 less 6", x.minutes(0, 2, true), 1);
        due("against, length", x.minutes(1, 1, true), 12);
        due("with, length", x.minutes(1, 1, false), 8);
        due("10 less 9", x.minutes(1, 0, true), 1);
        due("10 less 6", x.minutes(1, 2, true), 4);
        due("no ship", x.minutes(2, 0, true), -1);
        due("no ship", x.minutes(-1, 0, true), -1);
        due("no cell", x.minutes(0, 3, true), -1);
        due("no cell", x.minutes(0, -1, true), -1);
    }

    private static void promise11Kind() {
        promise = 11;
        StraitHouse x = house(STRAIT, "kind big is tons > 40; kind gun is guns and not kind big; kind both is kind big or kind gun;"
                + "kind last is 0 - 1;", "kind x is land ana; kind y is shore; kind z is war;", "");
        x.ship(0, 41, 10, 1, 5, 0, 0, false);
        x.ship(1, 40, 10, 1, 5, 0, 0, true);
        x.ship(1, 40, 10, 1, 0, 0, 0, false);
        due("the first that holds", x.kind(0, 0), 0);
        due("not kind big", x.kind(0, 1), 1);
        due("what is not 0 holds", x.kind(0, 2), 3);
        due("its land", x.kind(1, 0), 0);
        due("war", x.kind(1, 1), 2);
        due("none", x.kind(1, 2), -1);
        due("an empty shelf", x.kind(2, 0), -1);
        due("no shelf", x.kind(4, 0), -1);
        due("no shelf", x.kind(-1, 0), -1);
        due("no ship", x.kind(0, 3), -1);
        due("no ship", x.kind(0, -1), -1);
        // A PASSAGE that was judged leaves nothing behind that a kind line could see.
        x = house(STRAIT, "kind a is 1; may peace if kind a;", "kind n is 0; kind a is kind n;");
        x.ship(0, 41, 10, 1, 5, 0, 0, false);
        x.ask(0, 0, true, 0);
        due("let", x.reason(0, 0, 0), 0);
        due("by the other shelf", x.kind(1, 0), -1);
    }

    private static void promise12Turn() {
        promise = 12;
        StraitHouse x = new StraitHouse();
        due("day -1", x.turn(-1, 0), -1);
        due("day 1000", x.turn(1000, 0), -1);
        due("which -1", x.turn(0, -1), -1);
        due("which 3", x.turn(0, 3), -1);
        due("facts", x.about(3), 0);
        due("a number", x.turn(0, 0), 0);
        due("a number", x.turn(999, 2), 1);
        due("untold ones keep their place", x.untell(0), true);
        for (int i = 2; i < 200; i++) {
            due("a number", x.turn(5, 1), i);
        }
        due("a 201st", x.turn(5, 1), -1);
        due("facts", x.about(3), 200);
    }

    private static void promise13Ask() {
        promise = 13;
        StraitHouse x = house(STRAIT, "may peace if 1;");
        due("no ship", x.ask(0, 0, true, 0), -1);
        x.ship(0, 1, 10, 1, 0, 0, 0, false);
        due("no ship", x.ask(-1, 0, true, 0), -1);
        due("day -1", x.ask(0, -1, true, 0), -1);
        due("day 1000", x.ask(0, 1000, true, 0), -1);
        due("notice -1", x.ask(0, 0, true, -1), -1);
        due("notice 100", x.ask(0, 0, true, 100), -1);
        due("facts", x.about(3), 0);
        due("a number", x.ask(0, 0, true, 0), 0);
        due("cases have numbers, too", x.turn(0, 0), 1);
        due("a number", x.ask(0, 999, false, 99), 2);
        for (int i = 3; i < 200; i++) {
            x.ask(0, i, i % 2 == 0, 0);
        }
        due("a 201st", x.ask(0, 0, true, 0), -1);
        due("facts", x.about(3), 200);
        due("the last one of 200", x.reason(0, 199, 0), 0);
        due("200 facts", x.peace(999, 0), 0);
        due("200 facts", x.year(0, 2, 0), 0);
        due("200 facts", x.plan(0, 199, 0, 0), 1);
        due("by days", x.reason(0, 2, 0), 1);
    }

    private static void promise14Untell() {
        promise = 14;
        StraitHouse x = house(STRAIT, "may peace if 1;");
        x.ship(0, 1, 10, 1, 0, 0, 0, false);
        due("none such", x.untell(0), false);
        due("none such", x.untell(-1), false);
        x.ask(0, 0, true, 0);
        x.later(3);
        due("told", x.reason(0, 0, 3), 0);
        due("untold", x.untell(0), true);
        due("once", x.untell(0), false);
        due("none such", x.untell(1), false);
        due("known before", x.reason(0, 0, 2), 0);
        due("not any more", x.reason(0, 0, 3), -1);
        due("nor later", x.reason(0, 0, MAX), -1);
        due("ahead of all times", x.reason(0, 0, -1), -1);
        x.ask(0, 0, true, 0);
        due("at the same time", x.untell(1), true);
        due("never known", x.reason(0, 1, 2), -1);
        due("never known", x.reason(0, 1, 3), -1);
        due("never known", x.reason(0, 1, 4), -1);
        due("facts", x.about(3), 2);
    }

    private static void promise15Later() {
        promise = 15;
        StraitHouse x = new StraitHouse();
        due("0", x.later(0), 0);
        due("-1", x.later(-1), -1);
        due("1001", x.later(1001), -1);
        due("MAX", x.later(MAX), -1);
        for (int i = 1; i <= 99; i++) {
            due("1000", x.later(1000), 1000 * i);
        }
        due("999", x.later(999), 99999);
        due("above 100,000", x.later(2), -1);
        due("time", x.about(5), 99999);
        due("100,000", x.later(1), 100000);
        due("above", x.later(1), -1);
        due("0", x.later(0), 100000);
        x.turn(0, 2);
        due("known at 100,000", x.peace(0, 100000), 2);
        due("not at 99,999", x.peace(0, 99999), 0);
    }

    private static void promise16Peace() {
        promise = 16;
        StraitHouse x = new StraitHouse();
        due("without", x.peace(0, 0), 0);
        due("day -1", x.peace(-1, 0), -1);
        due("day 1000", x.peace(1000, 0), -1);
        x.turn(10, 2);
        x.turn(5, 1);
        due("ahead", x.peace(4, 0), 0);
        due("from 5 on", x.peace(5, 0), 1);
        due("to 9", x.peace(9, 0), 1);
        due("the greatest day", x.peace(10, 0), 2);
        due("on", x.peace(999, 0), 2);
        x.later(1);
        x.turn(10, 0);
        due("the last told of like ones", x.peace(10, 1), 0);
        due("as known before", x.peace(10, 0), 2);
        x.later(1);
        x.untell(3 - 1);
        due("without the last told", x.peace(10, 2), 2);
        due("k below 0", x.peace(10, -1), 0);
        due("k far on", x.peace(10, MAX), 2);
    }

    private static void promise17Reason() {
        promise = 17;
        StraitHouse x = house(STRAIT, "may peace if tons < 90; may threat if shore; sum 60; each 50; notice 2;", "may peace if 1;");
        x.ship(1, 30, 100, 5, 0, 0, 0, true);
        x.ship(2, 30, 100, 5, 0, 0, 0, true);
        x.ship(1, 1, 100, 5, 0, 0, 0, true);
        x.ship(0, 89, 100, 5, 0, 0, 0, true);
        x.ship(1, 89, 100, 5, 0, 0, 0, false);
        x.ship(1, 90, 100, 5, 0, 0, 0, false);
        x.ship(1, 10, 100, 20, 0, 0, 0, false);
        due("1: in the other sea", reasonOf(x, 0, 1, false, 9), 1);
        due("2: it hits, ahead of 3 and 4", reasonOf(x, 6, 1, true, 0), 2);
        due("3: notice below, ahead of 4", reasonOf(x, 5, 1, true, 1), 3);
        due("4: no may line", reasonOf(x, 5, 1, true, 2), 4);
        due("0: 30 inside", reasonOf(x, 0, 1, true, 2), 0);
        due("0: 60 is not above 60", reasonOf(x, 1, 1, true, 2), 0);
        due("5: 61 is", reasonOf(x, 2, 1, true, 2), 5);
        due("0: a shore's are not counted", reasonOf(x, 3, 1, true, 2), 0);
        due("0: no warship", reasonOf(x, 4, 1, true, 2), 0);
        due("0: southward", reasonOf(x, 1, 2, false, 2), 0);
        due("0: now there is room", reasonOf(x, 2, 2, true, 2), 0);
        x.turn(3, 1);
        due("4: threat", reasonOf(x, 2, 3, false, 2), 4);
        due("0: threat, a shore's", reasonOf(x, 3, 3, false, 2), 0);
        x.turn(4, 2);
        due("4: war", reasonOf(x, 0, 4, false, 2), 4);
        convention(x, 3, "may war if north; may peace if 1; may war if 1;");
        due("0: war", x.reason(3, x.about(3) - 1, 0), 0);
        due("its may line", x.why(3, x.about(3) - 1, 0), 2);
        due("no passage but a case", x.reason(0, x.about(3) - 2, 0), -1);
        due("no fact", x.reason(0, x.about(3), 0), -1);
        due("no fact", x.reason(0, -1, 0), -1);
        due("no shelf", x.reason(4, 0, 0), -1);
        due("no shelf", x.reason(-1, 0, 0), -1);
        due("by another shelf", x.reason(1, 2, 0), 0);
        due("by an empty shelf", x.reason(2, 4, 0), 4);
        x = house(STRAIT, "may peace if 1; sum 200; each 50;");
        x.ship(1, 30, 100, 5, 0, 0, 0, true);
        x.ship(1, 20, 100, 5, 0, 0, 0, true);
        x.ship(1, 1, 100, 5, 0, 0, 0, true);
        x.ship(2, 50, 100, 5, 0, 0, 0, true);
        x.ship(2, 201, 100, 5, 0, 0, 0, true);
        due("0: 30 of its land", reasonOf(x, 0, 0, true, 0), 0);
        due("0: 50 is not above 50", reasonOf(x, 1, 0, true, 0), 0);
        due("6: 51 is", reasonOf(x, 2, 0, true, 0), 6);
        due("0: another land", reasonOf(x, 3, 0, true, 0), 0);
        due("5 ahead of 6", reasonOf(x, 4, 0, true, 0), 5);
    }

    private static int reasonOf(StraitHouse x, int ship, int day, boolean north, int notice) {
        return x.reason(0, x.ask(ship, day, north, notice), x.about(5));
    }

    private static void promise17InOrder() {
        promise = 17;
        StraitHouse x = house(STRAIT, "may peace if 1;");
        x.ship(0, 1, 100, 5, 0, 0, 0, false);
        due("south on day 5", x.ask(0, 5, false, 0), 0);
        due("not in the north sea", x.reason(0, 0, 0), 1);
        x.later(1);
        due("north on day 4", x.ask(0, 4, true, 0), 1);
        due("by days", x.reason(0, 0, 1), 0);
        due("as known before", x.reason(0, 0, 0), 1);
        due("told later", x.reason(0, 1, 0), -1);
        due("north on day 5", x.ask(0, 5, true, 0), 2);
        due("of like ones by numbers", x.reason(0, 2, 1), 0);
        x.later(1);
        x.untell(1);
        due("without the first", x.reason(0, 0, 2), 1);
        due("without the first", x.reason(0, 2, 2), 0);
        x.turn(5, 2);
        due("a case of the same day, told later", x.reason(0, 2, 2), 4);
        due("as known before", x.reason(0, 2, 1), 0);
    }

    private static void promise18Why() {
        promise = 18;
        StraitHouse x = house(STRAIT, "may threat if 1; may peace if tons > 50; may peace if tons > 20; sum 55; notice 1;");
        x.ship(1, 51, 100, 5, 0, 0, 0, true);
        x.ship(1, 21, 100, 5, 0, 0, 0, true);
        x.ship(1, 20, 100, 5, 0, 0, 0, true);
        x.ask(0, 0, true, 1);
        x.ask(1, 0, true, 1);
        x.ask(2, 0, true, 1);
        x.ask(0, 1, true, 1);
        x.ask(0, 1, false, 0);
        due("the first that holds, among all", x.why(0, 0, 0), 1);
        due("of one that is stopped by sum", x.why(0, 1, 0), 2);
        due("its reason", x.reason(0, 1, 0), 5);
        due("reason 4", x.why(0, 2, 0), -1);
        due("reason 1", x.why(0, 3, 0), -1);
        due("reason 3", x.why(0, 4, 0), -1);
        x.turn(0, 1);
        due("a case", x.why(0, 5, 0), -1);
        due("threat", x.why(0, 0, 0), 0);
        due("no fact", x.why(0, 6, 0), -1);
        due("no fact", x.why(0, -1, 0), -1);
        due("no shelf", x.why(4, 0, 0), -1);
        due("not known", x.why(0, 0, -1), -1);
    }

    private static void promise19Inside() {
        promise = 19;
        StraitHouse x = house(STRAIT, "may peace if 1; stay 3;");
        x.ship(1, 30, 100, 5, 0, 0, 0, true);
        x.ship(2, 7, 100, 5, 0, 0, 0, true);
        x.ship(0, 900, 100, 5, 0, 0, 0, true);
        x.ship(1, 800, 100, 5, 0, 0, 0, false);
        for (int ship = 0; ship < 4; ship++) {
            x.ask(ship, 10 + ship, true, 0);
        }
        x.ask(0, 20, false, 0);
        x.ask(0, 22, true, 0);
        due("ahead", x.inside(0, 9, 0, 0), 0);
        due("that day, too", x.inside(0, 10, 0, 0), 30);
        due("tons", x.inside(0, 13, 0, 0), 37);
        due("many", x.inside(0, 13, 1, 0), 2);
        due("three days are not late", x.inside(0, 13, 2, 0), 0);
        due("four are", x.inside(0, 14, 2, 0), 1);
        due("both", x.inside(0, 15, 2, 0), 2);
        due("one went south", x.inside(0, 20, 1, 0), 1);
        due("late", x.inside(0, 20, 2, 0), 1);
        due("tons", x.inside(0, 22, 0, 0), 37);
        due("of its last way north", x.inside(0, 25, 2, 0), 1);
        due("of its last way north", x.inside(0, 26, 2, 0), 2);
        due("the last day", x.inside(0, 999, 0, 0), 37);
        due("by an empty shelf", x.inside(1, 999, 0, 0), 0);
        due("not known", x.inside(0, 999, 0, -1), 0);
        due("no shelf", x.inside(4, 0, 0, 0), -1);
        due("no shelf", x.inside(-1, 0, 0, 0), -1);
        due("no day", x.inside(0, 1000, 0, 0), -1);
        due("no day", x.inside(0, -1, 0, 0), -1);
        due("no what", x.inside(0, 0, 3, 0), -1);
        due("no what", x.inside(0, 0, -1, 0), -1);
        x = house(STRAIT, "may peace if 1;");
        x.ship(1, 30, 100, 5, 0, 0, 0, true);
        x.ask(0, 1, true, 0);
        due("99 if stay is not told", x.inside(0, 100, 2, 0), 0);
        due("100 days", x.inside(0, 101, 2, 0), 1);
    }

    private static void promise20Dues() {
        promise = 20;
        StraitHouse x = house(STRAIT, "kind big is tons > 40; may peace if 1; dues load * 10 + kind big + notice - 40;", "may peace if 1;");
        x.ship(1, 50, 100, 5, 0, 0, 4, false);
        x.ship(1, 10, 100, 5, 0, 0, 3, false);
        x.ask(0, 0, true, 5);
        x.ask(0, 0, true, 5);
        x.ask(1, 0, true, 5);
        x.turn(0, 0);
        due("dues", x.dues(0, 0, 0), 6);
        due("not let", x.dues(0, 1, 0), -1);
        due("0 at least", x.dues(0, 2, 0), 0);
        due("not told", x.dues(1, 0, 0), 0);
        due("a case", x.dues(0, 3, 0), -1);
        due("no fact", x.dues(0, 4, 0), -1);
        due("no fact", x.dues(0, -1, 0), -1);
        due("no shelf", x.dues(4, 0, 0), -1);
        due("not known", x.dues(0, 0, -1), -1);
    }

    private static void promise21Year() {
        promise = 21;
        StraitHouse x = house(STRAIT, "may peace if 1; dues 9999 * 9999 * 21 + day;");
        x.ship(0, 50, 100, 5, 0, 0, 0, false);
        long big = 9999L * 9999 * 21;
        x.ask(0, 0, true, 0);
        x.ask(0, 359, false, 0);
        x.ask(0, 359, false, 0);
        x.ask(0, 360, true, 0);
        x.ask(0, 719, false, 0);
        x.ask(0, 720, true, 0);
        x.ask(0, 999, false, 0);
        due("year 0", x.year(0, 0, 0), 2 * big + 359);
        due("year 1", x.year(0, 1, 0), 2 * big + 360 + 719);
        due("year 2", x.year(0, 2, 0), 2 * big + 720 + 999);
        due("not known", x.year(0, 2, -1), 0);
        due("no year", x.year(0, 3, 0), -1);
        due("no year", x.year(0, -1, 0), -1);
        due("no shelf", x.year(4, 0, 0), -1);
        due("no shelf", x.year(-1, 0, 0), -1);
        due("an empty shelf", x.year(1, 0, 0), 0);
    }

    private static void promise22Gaps() {
        promise = 22;
        StraitHouse x = house("cell depth 30 bend 0 flow 0 narrow;land a;", "may peace if 1;");
        for (int i = 0; i < 2; i++) {
            x.ship(0, 1, 50, 1, 0, 0, 0, false);
            x.ask(i, 0, true, 0);
        }
        x.sight(0, 40, true, -1);
        due("gap 10 at first", x.goes(0, 0, 1, 2, 0), 10);
        due("blur 30 at first", x.could(0, 0, 0), 2);
        x.ask(0, 3, false, 0);
        x.sight(3, 31, false, -1);
        due("31 minutes are more", x.could(0, 1, 0), 0);
        due("gap 0", x.gaps(0, 5), false);
        due("gap 61", x.gaps(61, 5), false);
        due("blur -1", x.gaps(20, -1), false);
        due("blur 201", x.gaps(20, 201), false);
        due("nothing was done", x.goes(0, 0, 1, 2, 0), 10);
        due("nothing was done", x.could(0, 0, 0), 2);
        due("the least", x.gaps(1, 0), true);
        due("gap", x.goes(0, 0, 1, 2, 0), 1);
        due("blur", x.could(0, 0, 0), 0);
        due("the greatest", x.gaps(60, 200), true);
        due("gap", x.goes(0, 0, 1, 2, 0), 60);
        due("blur", x.could(0, 0, 0), 3);
        due("blur 19", x.gaps(60, 19), true);
        due("20 minutes are more", x.could(0, 0, 0), 0);
        due("blur 20", x.gaps(60, 20), true);
        due("20 minutes are no more", x.could(0, 0, 0), 2);
    }

    /** Two go north and two south through a gorge in which all need 10 minutes. */
    private static StraitHouse fourMeet() {
        StraitHouse x = house("cell depth 30 bend 0 flow 0; cell depth 30 bend 0 flow 0 narrow; cell depth 30 bend 0 flow 0; land a;", "may peace if 1;");
        for (int i = 0; i < 4; i++) {
            x.ship(0, 1, 400, 1, 0, 0, 0, false);
        }
        x.ask(1, 0, true, 0);
        x.ask(3, 0, true, 0);
        for (int i = 0; i < 4; i++) {
            x.ask(i, 5, i % 2 == 0, 0);
        }
        return x;
    }

    private static void promise23Plan() {
        promise = 23;
        StraitHouse x = fourMeet();
        x.gaps(3, 30);
        due("many", x.plan(0, 5, 0, 0), 4);
        // 0 and 2 at 10 and 13, then 1 and 3 at 23 and 26.
        due("waiting", x.plan(0, 5, 1, 0), 3 + 13 + 16);
        due("last end", x.plan(0, 5, 2, 0), 36);
        due("another day", x.plan(0, 6, 0, 0), 0);
        due("another day", x.plan(0, 6, 1, 0), 0);
        due("another day", x.plan(0, 6, 2, 0), 0);
        due("an empty shelf", x.plan(1, 5, 0, 0), 0);
        due("the other shelf again", x.plan(0, 5, 0, 0), 4);
        due("not known", x.plan(0, 5, 0, -1), 0);
        due("known again", x.plan(0, 5, 0, 0), 4);
        due("another day", x.plan(0, 0, 0, 0), 2);
        due("no what", x.plan(0, 5, 3, 0), -1);
        due("no what", x.plan(0, 5, -1, 0), -1);
        due("no day", x.plan(0, -1, 0, 0), -1);
        due("no day", x.plan(0, 1000, 0, 0), -1);
        due("no shelf", x.plan(4, 5, 0, 0), -1);
        due("no shelf", x.plan(-1, 5, 0, 0), -1);
        x = house("cell depth 30 bend 0 flow 0; land a;", "may peace if 1;");
        x.ship(0, 1, 400, 1, 0, 0, 0, false);
        x.ship(0, 1, 400, 1, 0, 0, 0, false);
        x.ask(0, 5, true, 0);
        x.ask(1, 5, true, 0);
        due("without a gorge", x.plan(0, 5, 0, 0), 2);
        due("without a gorge", x.plan(0, 5, 1, 0), 0);
        due("without a gorge", x.plan(0, 5, 2, 0), 0);
    }

    private static void promise23ManyOnADay() {
        promise = 23;
        StraitHouse x = house("cell depth 30 bend 0 flow 0 narrow; land a;", "may peace if 1;");
        for (int i = 0; i < 10; i++) {
            x.ship(0, 1, 50, 1, 0, 0, 0, false);
            x.ask(i, 0, true, 0);
        }
        due("8 at most", x.plan(0, 0, 0, 0), 8);
        due("waiting", x.plan(0, 0, 1, 0), 10 * 28);
        due("last end", x.plan(0, 0, 2, 0), 76);
        due("the first by numbers", x.goes(0, 0, 7, 0, 0), 7);
        due("no ninth", x.goes(0, 0, 8, 0, 0), -1);
        x.untell(2);
        due("without one that is untold", x.goes(0, 0, 7, 0, 0), 8);
    }

    private static void promise24Goes() {
        promise = 24;
        StraitHouse x = fourMeet();
        x.gaps(3, 30);
        int[][] due = {{2, 10, 10, 20, 0}, {3, 10, 23, 33, 2}, {4, 10, 13, 23, 1}, {5, 10, 26, 36, 3}};
        for (int n = 0; n < 4; n++) {
            for (int what = 0; what < 5; what++) {
                due("goes(" + n + ", " + what + ")", x.goes(0, 5, n, what, 0), due[n][what]);
            }
        }
        due("no such", x.goes(0, 5, 4, 0, 0), -1);
        due("no such", x.goes(0, 5, -1, 0, 0), -1);
        due("no what", x.goes(0, 5, 0, 5, 0), -1);
        due("no what", x.goes(0, 5, 0, -1, 0), -1);
        due("no day", x.goes(0, 1000, 0, 0, 0), -1);
        due("no day", x.goes(0, -1, 0, 0, 0), -1);
        due("no shelf", x.goes(4, 5, 0, 0, 0), -1);
        due("not known", x.goes(0, 5, 0, 0, -1), -1);
        // The gorge goes from the first narrow cell to the last, and has one between them that is not narrow.
        x = house("cell depth 30 bend 0 flow 1;cell depth 30 bend 0 flow 2 narrow;cell depth 30 bend 0 flow 3;cell depth 30 bend 0 back 4 narrow;"
                + "cell depth 30 bend 0 flow 5; cell depth 30 bend 0 flow 5;land a;", "may peace if 1;");
        x.ship(0, 1, 99, 1, 0, 0, 0, false);
        x.ship(0, 1, 400, 1, 0, 0, 0, false);
        x.ask(0, 0, true, 0);
        x.ask(0, 1, false, 0);
        x.ask(1, 1, true, 0);
        due("north: ready", x.goes(0, 0, 0, 1, 0), 5);
        due("north: end", x.goes(0, 0, 0, 3, 0), 5 + 4 + 3 + 10);
        due("south: ready", x.goes(0, 1, 0, 1, 0), 22);
        due("the slow one goes first", x.goes(0, 1, 1, 4, 0), 0);
        due("it begins", x.goes(0, 1, 1, 2, 0), 9);
        due("it ends", x.goes(0, 1, 1, 3, 0), 9 + 8 + 7 + 14);
        due("the other begins as it ends", x.goes(0, 1, 0, 2, 0), 38);
        due("it ends", x.goes(0, 1, 0, 3, 0), 38 + 8 + 9 + 2);
        // One that is faster ends no sooner than the one ahead of it.
        x = house(times("cell depth 30 bend 0 flow 0 narrow;", 9) + "land a;", "may peace if 1;");
        x.ship(0, 1, 400, 1, 0, 0, 0, false);
        x.ship(0, 1, 10, 1, 0, 0, 0, false);
        x.gaps(60, 0);
        x.ask(0, 0, true, 0);
        x.ask(1, 0, true, 0);
        due("like waiting: the first by places", x.goes(0, 0, 0, 4, 0), 0);
        x.gaps(1, 0);
        due("the fast one first", x.goes(0, 0, 1, 4, 0), 0);
        due("waiting", x.plan(0, 0, 1, 0), 1);
        x = house("cell depth 30 bend 0 flow 0;" + times("cell depth 30 bend 0 flow 0 narrow;", 9) + "land a;", "may peace if 1;");
        x.ship(0, 1, 400, 1, 0, 0, 0, false);
        x.ship(0, 1, 10, 1, 0, 0, 0, false);
        x.ask(0, 0, true, 0);
        x.ask(1, 0, true, 0);
        x.gaps(60, 0);
        due("ready at 6 and 10: the fast one first", x.goes(0, 0, 0, 2, 0), 66);
        x = house("cell depth 30 bend 0 flow 0; land a;", "may peace if 1;");
        x.ship(0, 1, 400, 1, 0, 0, 0, false);
        x.ship(0, 1, 10, 1, 0, 0, 0, false);
        x.ask(0, 0, true, 0);
        x.ask(1, 0, true, 0);
        for (int what = 1; what <= 3; what++) {
            due("without a gorge", x.goes(0, 0, 1, what, 0), 0);
        }
        due("without a gorge its number", x.goes(0, 0, 1, 0, 0), 1);
        due("without a gorge its place", x.goes(0, 0, 1, 4, 0), 1);
    }

    private static void promise25Sight() {
        promise = 25;
        StraitHouse x = new StraitHouse();
        due("day -1", x.sight(-1, 0, true, 0), -1);
        due("day 1000", x.sight(1000, 0, true, 0), -1);
        due("minute -1", x.sight(0, -1, true, 0), -1);
        due("minute 1440", x.sight(0, 1440, true, 0), -1);
        due("kind -2", x.sight(0, 0, true, -2), -1);
        due("kind 6", x.sight(0, 0, true, 6), -1);
        due("none", x.about(4), 0);
        for (int i = 0; i < 60; i++) {
            due("a number", x.sight(i / 8, i == 0 ? 1439 : i, i % 2 == 0, i % 7 - 1), i);
            if (i == 3) {
                x.unsight(3);
            }
            if (i % 8 == 7) {
                due("a ninth of a day", x.sight(i / 8, 0, true, 0), -1);
            }
        }
        due("a 61st", x.sight(999, 0, true, 0), -1);
        due("60 sightings", x.readings(0, 7, 0), 0);
        due("the last one", x.could(0, 59, 0), 0);
        due("sightings", x.about(4), 60);
    }

    private static void promise26Unsight() {
        promise = 26;
        StraitHouse x = new StraitHouse();
        due("none such", x.unsight(0), false);
        x.sight(0, 0, true, -1);
        due("none such", x.unsight(1), false);
        due("none such", x.unsight(-1), false);
        due("it counts", x.could(0, 0, 0), 0);
        due("no reading", x.readings(0, 0, 0), 0);
        x.later(1);
        due("untold", x.unsight(0), true);
        due("once", x.unsight(0), false);
        due("known before", x.could(0, 0, 0), 0);
        due("not any more", x.could(0, 0, 1), -1);
        due("without it", x.readings(0, 0, 1), 1);
    }

    private static void promise27Readings() {
        promise = 27;
        StraitHouse x = house("cell depth 30 bend 0 flow 0 narrow;land a;", "kind big is tons > 50; may peace if 1;");
        for (int i = 0; i < 8; i++) {
            x.ship(0, 10 * i, 50, 1, 0, 0, 0, false);
            x.ask(i, 0, true, 0);
        }
        x.gaps(1, 200);
        due("none seen", x.readings(0, 0, 0), 1);
        int due = 1;
        for (int i = 0; i < 8; i++) {
            x.sight(0, i, true, -1);
            due *= 8 - i;
            due("any of those left", x.readings(0, 0, 0), due);
        }
        due("another day", x.readings(0, 1, 0), 1);
        due("no plan by it", x.readings(1, 0, 0), 0);
        due("nothing known", x.readings(0, 0, -1), 1);
        due("no day", x.readings(0, 1000, 0), -1);
        due("no day", x.readings(0, -1, 0), -1);
        due("no shelf", x.readings(4, 0, 0), -1);
        due("no shelf", x.readings(-1, 0, 0), -1);
        for (int i = 0; i < 8; i++) {
            x.unsight(i);
        }
        x.later(1);
        x.ask(0, 1, false, 0);
        x.ask(6, 1, false, 0);
        x.ask(7, 1, false, 0);
        x.sight(1, 5, false, 0);
        due("of two big ones", x.readings(0, 1, 1), 2);
        x.sight(1, 5, false, -1);
        due("another for each", x.readings(0, 1, 1), 4);
        x.gaps(60, 4);
        due("too far from all", x.readings(0, 1, 1), 0);
        x.gaps(60, 5);
        due("both but one", x.readings(0, 1, 1), 0);
        x.sight(2, 5, true, -1);
        due("no passages", x.readings(0, 2, 1), 0);
        x = house("cell depth 30 bend 0 flow 0;land a;", "may peace if 1;");
        x.ship(0, 1, 50, 1, 0, 0, 0, false);
        x.ask(0, 0, true, 0);
        x.sight(0, 30, true, -1);
        due("without a gorge from 0", x.readings(0, 0, 0), 1);
        x.gaps(10, 29);
        due("without a gorge from 0", x.readings(0, 0, 0), 0);
        x = house("cell depth 30 bend 0 flow 0;land a;", "may peace if 1;");
        x.ship(0, 1, 50, 1, 0, 0, 0, false);
        x.ask(0, 0, true, 0);
        x.sight(0, 0, false, -1);
        due("the other way", x.readings(0, 0, 0), 0);
    }

    private static void promise28Could() {
        promise = 28;
        StraitHouse x = house("cell depth 30 bend 0 flow 0 narrow;land a;", "kind big is tons > 50; may peace if 1;");
        for (int i = 0; i < 4; i++) {
            x.ship(0, 25 * i, 50, 1, 0, 0, 0, false);
            x.ask(i, 0, true, 0);
        }
        x.gaps(20, 10);
        // They begin at 0, 20, 40, 60; the last one is big.
        x.sight(0, 10, true, -1);
        due("two", x.could(0, 0, 0), 3);
        x.sight(0, 30, true, -1);
        due("two still", x.could(0, 0, 0), 3);
        due("two", x.could(0, 1, 0), 6);
        x.sight(0, 0, true, -1);
        due("one", x.could(0, 2, 0), 1);
        due("what is left", x.could(0, 0, 0), 2);
        due("what is left", x.could(0, 1, 0), 4);
        x.sight(0, 60, true, 0);
        due("of its kind", x.could(0, 3, 0), 8);
        x.sight(0, 50, true, 0);
        due("no reading: none", x.could(0, 0, 0), 0);
        due("no reading: none", x.could(0, 4, 0), 0);
        due("no shelf", x.could(4, 0, 0), -1);
        due("no shelf", x.could(-1, 0, 0), -1);
        due("no sighting", x.could(0, 5, 0), -1);
        due("no sighting", x.could(0, -1, 0), -1);
        due("not known", x.could(0, 0, -1), -1);
        due("by an empty shelf", x.could(1, 0, 0), 0);
    }

    private static void promise29Oil() {
        promise = 29;
        StraitHouse x = house("cell depth 9 bend 0 back 5;cell depth 9 bend 0 flow 3;cell depth 9 bend 0 flow 9;");
        due("no step", x.oil(1, 99999, 0, 1), 99999);
        due("no step", x.oil(1, 99999, 0, 0), 0);
        due("one", x.oil(1, 99999, 1, 1), 70000);
        due("cut", x.oil(1, 99999, 1, 2), 29999);
        due("south sea", x.oil(0, 99, 1, -1), 49);
        due("what is left", x.oil(0, 99, 1, 0), 50);
        due("south sea", x.oil(0, 99, 2, -1), 74);
        due("1 ton stays", x.oil(0, 99, 1000, 0), 1);
        due("north sea", x.oil(2, 10, 1, 20), 9);
        due("all at once", x.oil(1, 100, 2, 2), 3 + 21);
        due("all at once", x.oil(1, 100, 2, 20), 27);
        due("the end", x.oil(1, 100, 1000, 20), 96);
        due("no cell", x.oil(3, 1, 1, 0), -1);
        due("no cell", x.oil(-1, 1, 1, 0), -1);
        due("no place", x.oil(0, 1, 1, 3), -1);
        due("no place", x.oil(0, 1, 1, 19), -1);
        due("no place", x.oil(0, 1, 1, 21), -1);
        due("no place", x.oil(0, 1, 1, -2), -1);
        due("tons", x.oil(0, -1, 1, 0), -1);
        due("tons", x.oil(0, 100000, 1, 0), -1);
        due("steps", x.oil(0, 1, -1, 0), -1);
        due("steps", x.oil(0, 1, 1001, 0), -1);
        due("a new spill", x.oil(0, 0, 1, 20), 0);
        x = house(times("cell depth 9 bend 0 flow 9;", 20));
        due("20 cells: the last one", x.oil(19, 1000, 1, 19), 100);
        due("20 cells: the north sea", x.oil(19, 1000, 1, 20), 900);
        due("no oil in still water", house("cell depth 9 bend 0 back 0;").oil(0, 9, 1000, 0), 9);
    }

    private static void promise30Part() {
        promise = 30;
        StraitHouse x = house(STRAIT, "kind a is tons > 40; kind b is guns > 3 and decks > 2 and war;", "kind a is tons > 40;", "kind a is tons > 99;");
        int[] due = {0, 4, 3, 1, 1, -1};
        for (int what = 0; what < 6; what++) {
            due("part(0, 1, " + what + ")", x.part(0, 1, what), due[what]);
        }
        due("the other way", x.part(1, 0, 4), -1);
        due("the other way", x.part(1, 0, 5), 1);
        due("tons", x.part(1, 3, 0), 41);
        due("two others", x.part(0, 3, 1), 4);
        due("the same first", x.part(0, 2, 0), 0);
        due("the same second", x.part(1, 2, 0), 41);
        due("the same second", x.part(0, 2, 3), 1);
        due("the same first", x.part(0, 1, 5), -1);
        due("the same first", x.part(0, 2, 5), -1);
        due("and back", x.part(1, 2, 4), 0);
        due("above 99 tons they may differ", x.part(2, 3, 0), -2);
        due("itself", x.part(0, 0, 0), -2);
        due("no what", x.part(0, 1, 6), -2);
        due("no what", x.part(0, 1, -1), -2);
        due("no shelf", x.part(0, 4, 0), -2);
        due("no shelf", x.part(-1, 0, 0), -2);
        due("no shelf", x.part(4, 4, 0), -2);
        convention(x, 2, "kind z is length = 100 and draft = 5 and load = 0 and land ana and shore;");
        due("what the ships have", x.part(2, 3, 0), 0);
        due("a new text", x.part(2, 3, 4), 0);
        convention(x, 2, "kind y is 0; kind z is tons = 99 and guns = 20 and decks = 5 and war;");
        int[] last = {99, 20, 5, 1, 1, -1};
        for (int what = 0; what < 6; what++) {
            due("the last ship " + what, x.part(2, 3, what), last[what]);
        }
        convention(x, 2, "kind y is 0; kind z is tons = 99 and guns = 21;");
        due("none", x.part(2, 3, 0), -2);
        // By number, whatever the names are.
        convention(x, 2, "kind y is tons > 1;");
        convention(x, 3, "kind z is tons > 1;");
        due("by number", x.part(2, 3, 0), -2);
        convention(x, 2, "kind z is decks > 5 or war > 1 or guns > 20 or tons > 99;");
        convention(x, 3, "");
        due("no such ships", x.part(2, 3, 0), -2);
        convention(x, 2, "kind z is load;");
        x.ship(0, 1, 10, 1, 0, 0, 9, false);
        due("a load", x.kind(2, 0), 0);
        due("no load", x.part(2, 3, 0), -2);
        strait(x, "land a shore;");
        convention(x, 0, "kind a is shore;");
        due("of one land", x.part(0, 1, 0), 0);
        strait(x, "");
        strait(x, "");
        convention(x, 0, "kind a is shore;");
        due("without a land shore is 0", x.part(0, 1, 0), -2);
        convention(x, 0, "kind a is not shore;");
        due("without a land shore is 0", x.part(0, 1, 0), 0);
        strait(x, "land a; land b shore;");
        convention(x, 0, "kind a is shore or land b; kind b is land a;");
        due("land 0", x.part(0, 1, 4), 1);
    }

    private static void promise31About() {
        promise = 31;
        StraitHouse x = house(STRAIT, "sum 1;", "sum 1; each 2;", "", "sum 1; each 2; stay 3;");
        x.ship(0, 1, 10, 1, 0, 0, 0, false);
        x.ship(0, 1, 10, 1, 0, 0, 0, false);
        x.turn(0, 0);
        x.ask(0, 0, true, 0);
        x.turn(0, 0);
        for (int i = 0; i < 5; i++) {
            x.sight(0, 0, true, -1);
        }
        x.later(77);
        put(x, "abc");
        int[] due = {4, 3, 2, 3, 5, 77, 3, -1, -1, -1, 1, 2, 0, 3, -1};
        for (int what = 0; what < due.length; what++) {
            due("about(" + what + ")", x.about(what), due[what]);
        }
        due("another", x.about(-1), -1);
        due("another", x.about(MIN), -1);
        due("another", x.about(MAX), -1);
    }
}
