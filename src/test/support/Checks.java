import java.nio.ByteBuffer;
import java.nio.charset.StandardCharsets;
import java.util.Arrays;
import java.util.function.Supplier;
import java.util.function.ToLongFunction;

/** What tests share: texts put on the TAPE, answers held against those that are due, looks at all that can be seen. */
class Checks {
    static final int MIN = Integer.MIN_VALUE;
    static final int MAX = Integer.MAX_VALUE;
    static final String STRAIT = "cell depth 20 bend 2 flow 1; cell depth 15 bend 5 flow 2 narrow; cell depth 12 bend 1 back 3 narrow;"
            + "cell depth 30 bend 0 flow 0; land ana shore; land bor; land cid;";
    static final String[] RESERVED = ("cell depth bend flow back narrow land shore kind is may if peace threat war sum each stay notice dues and or not "
            + "tons length draft guns decks load north day").split(" ");
    private static int wrong;
    private static int held;
    private static String sentence = "";

    /** The words of the document that the next answers are due by. */
    static void says(String words) {
        sentence = words;
    }

    static void due(String what, long got, long want) {
        held++;
        if (got != want) {
            wrong++;
            System.out.println("[" + sentence + "] " + what + " answered " + got + ", due is " + want);
        }
    }

    static void due(String what, boolean got, boolean want) {
        due(what, got ? 1 : 0, want ? 1 : 0);
    }

    static void due(String what, String got, String want) {
        held++;
        if (!got.equals(want)) {
            wrong++;
            System.out.println("[" + sentence + "] " + what + ":\n  " + got + "\n  due is\n  " + want);
        }
    }

    static void finish() {
        System.out.println(wrong == 0 ? held + " answers are as due" : wrong + " of " + held + " answers are not as due");
        if (wrong != 0) {
            System.exit(1);
        }
    }

    // ---- texts ----

    static void put(StraitHouse x, String text) {
        byte[] bytes = Arrays.copyOf(text.getBytes(StandardCharsets.ISO_8859_1), (text.length() + 19) / 20 * 20);
        ByteBuffer n = ByteBuffer.wrap(bytes);
        int before = x.about(6);
        while (n.hasRemaining()) {
            x.feed(n.getInt(), n.getInt(), n.getInt(), n.getInt(), n.getInt());
        }
        x.end(before + text.length());
    }

    static int strait(StraitHouse x, String text) {
        put(x, text);
        return x.strait();
    }

    static int convention(StraitHouse x, int shelf, String text) {
        put(x, text);
        return x.convention(shelf);
    }

    static StraitHouse house(String strait, String... conventions) {
        StraitHouse x = new StraitHouse();
        due("strait [" + strait + "]", strait(x, strait) >= 0, true);
        for (int i = 0; i < conventions.length; i++) {
            due("convention [" + conventions[i] + "]", convention(x, i, conventions[i]) >= 0, true);
        }
        return x;
    }

    static void straitFault(String text, int code, int place) {
        StraitHouse x = new StraitHouse();
        due("strait [" + text + "]", strait(x, text), -1);
        due("its fault [" + text + "]", x.fault(0), code);
        due("its place [" + text + "]", x.fault(1), place);
    }

    static void straitStands(String text, int lines) {
        StraitHouse x = new StraitHouse();
        due("strait [" + text + "]", strait(x, text), lines);
        due("its fault [" + text + "]", x.fault(0), 0);
        due("its place [" + text + "]", x.fault(1), -1);
    }

    static void textFault(String text, int code, int place) {
        StraitHouse x = house(STRAIT);
        due("convention [" + text + "]", convention(x, 0, text), -1);
        due("its fault [" + text + "]", x.fault(0), code);
        due("its place [" + text + "]", x.fault(1), place);
    }

    static void textStands(String text, int lines) {
        StraitHouse x = house(STRAIT);
        due("convention [" + text + "]", convention(x, 0, text), lines);
        due("its fault [" + text + "]", x.fault(0), 0);
        due("its place [" + text + "]", x.fault(1), -1);
    }

    static String times(String piece, int n) {
        return piece.repeat(n);
    }

    /** Blanks ahead of a text, so that it has so many bytes. */
    static String padded(String text, int bytes) {
        return times(" ", bytes - text.length()) + text;
    }

    // ---- looks ----

    /** A house with something of everything: at TIME 7, and with a text on the TAPE that is no STRAIT. */
    static StraitHouse full() {
        StraitHouse x = house(STRAIT, "kind big is tons > 40; kind gun is guns > 0; may peace if tons < 90; may threat if shore; sum 80; each 60; stay 2;"
                + "notice 1; dues load * 10 + notice;", "kind big is tons > 30; may peace if 1; may threat if 1; may war if 1;");
        x.ship(1, 50, 210, 6, 0, 0, 3, true);
        x.ship(2, 35, 90, 4, 2, 1, 1, true);
        x.ship(0, 20, 150, 5, 1, 0, 2, false);
        x.later(3);
        for (int ship = 0; ship < 3; ship++) {
            x.ask(ship, 10, true, 5);
        }
        x.ask(0, 10, false, 0);
        x.turn(20, 1);
        x.ask(2, 20, false, 7);
        x.turn(30, 2);
        x.sight(10, 20, true, 0);
        x.sight(10, 30, true, -1);
        x.sight(20, 3, false, 1);
        x.later(4);
        x.untell(3);
        x.unsight(1);
        x.gaps(12, 25);
        put(x, "stay 7; each 9;");
        return x;
    }

    /** What all calls answer that change nothing. */
    static String look(StraitHouse x) {
        StringBuilder seen = new StringBuilder("about");
        for (int what = -1; what <= 14; what++) {
            seen.append(' ').append(x.about(what));
        }
        seen.append(" fault ").append(x.fault(0)).append(' ').append(x.fault(1)).append(" cells");
        for (int cell = 0; cell < 4; cell++) {
            seen.append(' ').append(x.cell(cell, 0) + 100 * x.cell(cell, 1) + 10000 * x.cell(cell, 2) + 1000000 * x.cell(cell, 3));
        }
        seen.append(" ships");
        for (int ship = 0; ship < 4; ship++) {
            seen.append(' ').append(x.hits(ship, true)).append(' ').append(x.minutes(ship, 1, false)).append(' ').append(x.kind(0, ship));
            seen.append(' ').append(x.kind(1, ship));
        }
        for (int k = 3; k <= 7; k += 4) {
            seen.append(lookAt(x, k));
        }
        seen.append(" part");
        for (int what = 0; what < 6; what++) {
            seen.append(' ').append(x.part(0, 1, what));
        }
        return seen.toString();
    }

    private static String lookAt(StraitHouse x, int k) {
        StringBuilder seen = new StringBuilder(" known at " + k);
        seen.append(' ').append(x.peace(19, k)).append(' ').append(x.peace(20, k)).append(' ').append(x.peace(999, k)).append(" facts");
        for (int fact = 0; fact < 8; fact++) {
            seen.append(' ').append(x.reason(0, fact, k)).append(' ').append(x.why(0, fact, k)).append(' ').append(x.dues(0, fact, k));
            seen.append(' ').append(x.reason(1, fact, k));
        }
        seen.append(" inside ").append(x.inside(0, 13, 0, k)).append(' ').append(x.inside(0, 13, 2, k)).append(" year ").append(x.year(0, 0, k));
        for (int n = 0; n < 4; n++) {
            seen.append(" goes ").append(x.goes(0, 10, n, 0, k)).append(' ').append(x.goes(0, 10, n, 1, k)).append(' ').append(x.goes(0, 10, n, 2, k));
            seen.append(' ').append(x.goes(0, 10, n, 3, k)).append(' ').append(x.goes(0, 10, n, 4, k));
        }
        seen.append(" plan ").append(x.plan(0, 10, 0, k)).append(' ').append(x.plan(0, 10, 1, k)).append(' ').append(x.plan(0, 10, 2, k));
        seen.append(" seen ").append(x.readings(0, 10, k)).append(' ').append(x.readings(0, 20, k));
        for (int sighting = 0; sighting < 4; sighting++) {
            seen.append(' ').append(x.could(0, sighting, k));
        }
        return seen.toString();
    }

    /** What the next calls would answer that do something: which numbers they give, and what is on the TAPE. */
    static String lookOn(StraitHouse x) {
        StringBuilder seen = new StringBuilder("next");
        seen.append(' ').append(x.turn(999, 2)).append(' ').append(x.ask(0, 999, true, 0)).append(' ').append(x.sight(999, 0, true, -1));
        seen.append(' ').append(x.ship(0, 1, 10, 1, 0, 0, 0, false)).append(' ').append(x.later(0)).append(" tape");
        seen.append(' ').append(x.convention(3)).append(' ').append(x.about(13)).append(' ').append(x.fault(0)).append(' ').append(x.fault(1));
        return seen.toString();
    }

    /** A call that is refused: its answer, and that a house that got it can't be told from one that did not. */
    static void refused(String what, long answer, Supplier<StraitHouse> maker, ToLongFunction<StraitHouse> call) {
        StraitHouse touched = maker.get();
        StraitHouse untouched = maker.get();
        due(what, call.applyAsLong(touched), answer);
        due("nothing was done by " + what, look(touched), look(untouched));
        due("nothing was done by " + what, lookOn(touched), lookOn(untouched));
    }

    static void refused(String what, long answer, ToLongFunction<StraitHouse> call) {
        refused(what, answer, Checks::full, call);
    }

    static long number(boolean answer) {
        return answer ? 1 : 0;
    }
}
