import java.util.ArrayList;
import java.util.Arrays;
import java.util.HashMap;
import java.util.List;
import java.util.Map;
import java.util.Random;
import java.util.Set;
import java.util.function.ToIntFunction;

/**
 * Random runs of calls, each answer held against a plain model of the document that tries everything out:
 * all orders of a PLAN, all READINGS, all SHIPS of a PART.
 */
public final class ModelRuns {
    private static final int RUNS = 200;
    private static final int CROWDED_DAYS = 200;
    private static final int TEXT_RUNS = 400;
    private static final int CALLS = 300;

    /** An argument makes it so many times as long. */
    public static void main(String[] args) {
        int times = args.length > 0 ? Integer.parseInt(args[0]) : 1;
        int wrong = 0;
        for (int i = 0; i < RUNS * times && wrong < 10; i++) {
            wrong += new Run(i).play();
        }
        for (int i = 0; i < CROWDED_DAYS * times && wrong < 10; i++) {
            wrong += new Run(i).crowdDay();
        }
        for (int i = 0; i < TEXT_RUNS * times && wrong < 10; i++) {
            wrong += new Run(i * 3).readTexts();
        }
        System.out.println(wrong == 0 ? "all runs answer as the model does" : wrong + " runs differ from the model");
        if (wrong != 0) {
            System.exit(1);
        }
    }

    // ---- the model ----

    static final class Fault extends RuntimeException {
        private static final long serialVersionUID = 1L;
        final int code;
        final int place;

        Fault(int code, int place) {
            super(null, null, false, false);
            this.code = code;
            this.place = place;
        }
    }

    record Token(String text, int place) {
        boolean isWord() {
            return !text.isEmpty() && Character.isLowerCase(text.charAt(0));
        }

        boolean isNumber() {
            return !text.isEmpty() && Character.isDigit(text.charAt(0));
        }
    }

    record Cell(int depth, int bend, int current, boolean narrow) { }

    record Land(String name, boolean shore) { }

    record Vessel(int land, int tons, int length, int draft, int guns, int decks, int load, boolean war, boolean shore) { }

    record Told(boolean passage, int subject, int day, boolean north, int number, int told, int[] untold) {
        boolean counts(int k) {
            return told <= k && !(untold[0] >= 0 && untold[0] <= k);
        }
    }

    static final class Ask {
        Vessel ship;
        boolean north;
        int notice;
        int day;
        Text text;
        boolean kindLine;
    }

    record Kind(String name, ToIntFunction<Ask> e) { }

    record May(int which, ToIntFunction<Ask> e) { }

    static final class Text {
        List<Kind> kinds = new ArrayList<>();
        List<May> mays = new ArrayList<>();
        Map<String, Integer> limits = new HashMap<>(Map.of("sum", 9999, "each", 9999, "stay", 99, "notice", 0));
        ToIntFunction<Ask> dues = a -> 0;
        int lines;

        int kindOf(Vessel ship) {
            for (int i = 0; i < kinds.size(); i++) {
                if (holdsAsKind(ship, i)) {
                    return i;
                }
            }
            return -1;
        }

        boolean holdsAsKind(Vessel ship, int kind) {
            Ask ask = new Ask();
            ask.ship = ship;
            ask.text = this;
            ask.kindLine = true;
            return kinds.get(kind).e.applyAsInt(ask) != 0;
        }
    }

    /** Reads with the words of the grammar, and throws at the first fault. */
    static class Reading {
        static final Set<String> RESERVED = Set.of(("cell depth bend flow back narrow land shore kind is may if peace threat war sum each "
                + "stay notice dues and or not tons length draft guns decks load north day").split(" "));
        final String text;
        int pos;
        Token now;

        Reading(String text) {
            this.text = text;
            next();
        }

        private char at(int i) {
            return i < text.length() ? text.charAt(i) : 0;
        }

        void next() {
            while (at(pos) == ' ' || at(pos) == '\n') {
                pos++;
            }
            int from = pos;
            if (pos >= text.length()) {
                now = new Token("", text.length());
                return;
            }
            String letters = run("[a-z]+");
            String digits = run("[0-9]+");
            if (!letters.isEmpty()) {
                pos += letters.length();
                now = new Token(letters.length() > 8 ? "?" : letters, from);
            } else if (!digits.isEmpty()) {
                pos += digits.length();
                boolean bad = digits.length() > 4 || at(pos) >= 'a' && at(pos) <= 'z';
                now = new Token(bad ? "?" : digits, from);
            } else {
                pos++;
                now = new Token(";()<>=+-*".indexOf(at(from)) >= 0 && at(from) != 0 ? "" + at(from) : "?", from);
            }
        }

        private String run(String pattern) {
            var matcher = java.util.regex.Pattern.compile(pattern).matcher(text).region(pos, text.length());
            return matcher.lookingAt() ? matcher.group() : "";
        }

        boolean ended() {
            return now.place == text.length();
        }

        boolean is(String word) {
            return now.text.equals(word) && !ended();
        }

        Fault fault(int code) {
            return new Fault(now.text.equals("?") ? 1 : code, now.place);
        }

        void take(String word) {
            if (!is(word)) {
                throw fault(2);
            }
            next();
        }

        boolean skip(String word) {
            if (is(word)) {
                next();
                return true;
            }
            return false;
        }

        int number(int least, int most) {
            if (!now.isNumber()) {
                throw fault(2);
            }
            int n = Integer.parseInt(now.text);
            if (n < least || n > most) {
                throw fault(4);
            }
            next();
            return n;
        }

        String name(List<String> told, boolean wantNew) {
            if (!now.isWord() || RESERVED.contains(now.text)) {
                throw fault(2);
            }
            if (told.contains(now.text) == wantNew) {
                throw fault(wantNew ? 3 : 5);
            }
            String name = now.text;
            next();
            return name;
        }
    }

    static final class StraitReading extends Reading {
        final List<Cell> cells = new ArrayList<>();
        final List<Land> lands = new ArrayList<>();
        int lines;

        StraitReading(String text) {
            super(text);
            while (!ended()) {
                if (is("cell") && cells.size() < 20) {
                    next();
                    take("depth");
                    int depth = number(1, 99);
                    take("bend");
                    int bend = number(0, 9);
                    int sign = skip("back") ? -1 : 1;
                    if (sign == 1) {
                        take("flow");
                    }
                    int current = sign * number(0, 9);
                    cells.add(new Cell(depth, bend, current, skip("narrow")));
                } else if (is("land") && lands.size() < 8) {
                    next();
                    lands.add(new Land(name(lands.stream().map(Land::name).toList(), true), skip("shore")));
                } else {
                    throw fault(2);
                }
                take(";");
                lines++;
            }
        }
    }

    static final class TextReading extends Reading {
        final Text made = new Text();
        final List<String> lands;
        final List<String> once = new ArrayList<>();
        int units;
        boolean kindLine;

        TextReading(String text, List<String> lands) {
            super(text);
            this.lands = lands;
            while (!ended()) {
                line();
                take(";");
                made.lines++;
            }
        }

        private List<String> kindNames() {
            return made.kinds.stream().map(Kind::name).toList();
        }

        private void line() {
            String word = ended() ? "" : now.text;
            kindLine = word.equals("kind");
            if (once.contains(word) || kindLine && made.kinds.size() == 6 || word.equals("may") && made.mays.size() == 8) {
                throw fault(2);
            }
            switch (word) {
                case "kind" -> {
                    next();
                    String name = name(kindNames(), true);
                    take("is");
                    made.kinds.add(new Kind(name, either()));
                }
                case "may" -> {
                    next();
                    int which = List.of("peace", "threat", "war").indexOf(now.text);
                    if (which < 0) {
                        throw fault(2);
                    }
                    next();
                    take("if");
                    made.mays.add(new May(which, either()));
                }
                case "sum", "each", "stay", "notice" -> {
                    once.add(word);
                    next();
                    made.limits.put(word, number(0, word.equals("stay") || word.equals("notice") ? 99 : 9999));
                }
                case "dues" -> {
                    once.add(word);
                    next();
                    made.dues = either();
                }
                default -> throw fault(2);
            }
        }

        private int depth;

        private ToIntFunction<Ask> either() {
            ToIntFunction<Ask> left = both();
            while (skip("or")) {
                ToIntFunction<Ask> l = left;
                ToIntFunction<Ask> r = both();
                left = a -> l.applyAsInt(a) != 0 | r.applyAsInt(a) != 0 ? 1 : 0;
            }
            return left;
        }

        private ToIntFunction<Ask> both() {
            ToIntFunction<Ask> left = one();
            while (skip("and")) {
                ToIntFunction<Ask> l = left;
                ToIntFunction<Ask> r = one();
                left = a -> l.applyAsInt(a) != 0 & r.applyAsInt(a) != 0 ? 1 : 0;
            }
            return left;
        }

        private ToIntFunction<Ask> one() {
            if (is("not")) {
                enter();
                next();
                ToIntFunction<Ask> inner = one();
                depth--;
                return a -> inner.applyAsInt(a) == 0 ? 1 : 0;
            }
            ToIntFunction<Ask> l = sum();
            if (is("<") || is(">") || is("=")) {
                char sign = now.text.charAt(0);
                next();
                ToIntFunction<Ask> r = sum();
                return a -> {
                    int order = Integer.compare(l.applyAsInt(a), r.applyAsInt(a));
                    return order == (sign == '<' ? -1 : sign == '>' ? 1 : 0) ? 1 : 0;
                };
            }
            return l;
        }

        private ToIntFunction<Ask> sum() {
            ToIntFunction<Ask> left = term();
            while (is("+") || is("-")) {
                int sign = is("+") ? 1 : -1;
                next();
                ToIntFunction<Ask> l = left;
                ToIntFunction<Ask> r = term();
                left = a -> l.applyAsInt(a) + sign * r.applyAsInt(a);
            }
            return left;
        }

        private ToIntFunction<Ask> term() {
            ToIntFunction<Ask> left = unit();
            while (skip("*")) {
                ToIntFunction<Ask> l = left;
                ToIntFunction<Ask> r = unit();
                left = a -> l.applyAsInt(a) * r.applyAsInt(a);
            }
            return left;
        }

        private void enter() {
            if (depth == 7) {
                throw fault(2);
            }
            depth++;
        }

        private ToIntFunction<Ask> unit() {
            Token first = now;
            String word = ended() ? "" : now.text;
            boolean known = List.of("tons", "length", "draft", "guns", "decks", "load", "war", "shore", "north", "notice", "day",
                    "kind", "land", "(").contains(word) || now.isNumber();
            if (!known || units == 100) {
                throw fault(2);
            }
            if (kindLine && List.of("north", "notice", "day").contains(word)) {
                throw fault(6);
            }
            if (word.equals("(")) {
                enter();
            }
            units++;
            next();
            return first.isNumber() ? number(Integer.parseInt(first.text)) : worded(word);
        }

        private static ToIntFunction<Ask> number(int n) {
            return a -> n;
        }

        private ToIntFunction<Ask> worded(String word) {
            switch (word) {
                case "(":
                    ToIntFunction<Ask> inner = either();
                    take(")");
                    depth--;
                    return inner;
                case "kind":
                    int kind = kindNames().indexOf(name(kindNames(), false));
                    return a -> (a.kindLine ? a.text.holdsAsKind(a.ship, kind) : a.text.kindOf(a.ship) == kind) ? 1 : 0;
                case "land":
                    int land = lands.indexOf(name(lands, false));
                    return a -> a.ship.land == land ? 1 : 0;
                case "tons":
                    return a -> a.ship.tons;
                case "length":
                    return a -> a.ship.length;
                case "draft":
                    return a -> a.ship.draft;
                case "guns":
                    return a -> a.ship.guns;
                case "decks":
                    return a -> a.ship.decks;
                case "load":
                    return a -> a.ship.load;
                case "war":
                    return a -> a.ship.war ? 1 : 0;
                case "shore":
                    return a -> a.ship.shore ? 1 : 0;
                case "north":
                    return a -> a.north ? 1 : 0;
                case "notice":
                    return a -> a.notice;
                default:
                    return a -> a.day;
            }
        }
    }

    /** The document, promise by promise, with nothing kept between calls but what was told. */
    static final class Model {
        StringBuilder tape = new StringBuilder();
        List<Cell> cells = List.of();
        List<Land> lands = List.of();
        Text[] shelves = {new Text(), new Text(), new Text(), new Text()};
        List<Vessel> ships = new ArrayList<>();
        List<Told> facts = new ArrayList<>();
        List<Told> sightings = new ArrayList<>();
        int time;
        int gap = 10;
        int blur = 30;
        int fault;
        int faultPlace = -1;

        int feed(int[] numbers) {
            if (tape.length() > 1180) {
                return -1;
            }
            for (int n : numbers) {
                for (int i = 3; i >= 0; i--) {
                    tape.append((char) (n >>> 8 * i & 255));
                }
            }
            return tape.length();
        }

        int end(int n) {
            if (n < 0 || n > tape.length()) {
                return -1;
            }
            tape.setLength(n);
            return n;
        }

        private String takeTape() {
            String text = tape.toString();
            tape.setLength(0);
            fault = 0;
            faultPlace = -1;
            return text;
        }

        int strait() {
            try {
                StraitReading read = new StraitReading(takeTape());
                cells = read.cells;
                lands = read.lands;
                shelves = new Text[] {new Text(), new Text(), new Text(), new Text()};
                ships.clear();
                facts.clear();
                sightings.clear();
                return read.lines;
            } catch (Fault f) {
                fault = f.code;
                faultPlace = f.place;
                return -1;
            }
        }

        int convention(int shelf) {
            if (shelf < 0 || shelf > 3) {
                return -2;
            }
            try {
                shelves[shelf] = new TextReading(takeTape(), lands.stream().map(Land::name).toList()).made;
                return shelves[shelf].lines;
            } catch (Fault f) {
                fault = f.code;
                faultPlace = f.place;
                return -1;
            }
        }

        int fault(int what) {
            return what == 0 ? fault : what == 1 ? faultPlace : -1;
        }

        static boolean in(int n, int a, int b) {
            return a <= n && n <= b;
        }

        int ship(int[] a, boolean war) {
            int[][] limits = {{0, lands.size() - 1}, {0, 9999}, {10, 400}, {1, 30}, {0, 20}, {0, 5}, {0, 9}};
            for (int i = 0; i < 7; i++) {
                if (!in(a[i], limits[i][0], limits[i][1])) {
                    return -1;
                }
            }
            if (ships.size() == 20) {
                return -1;
            }
            ships.add(new Vessel(a[0], a[1], a[2], a[3], a[4], a[5], a[6], war, lands.get(a[0]).shore));
            return ships.size() - 1;
        }

        int cell(int cell, int what) {
            if (!in(cell, 0, cells.size() - 1) || !in(what, 0, 3)) {
                return -1;
            }
            Cell c = cells.get(cell);
            return new int[] {c.depth, c.bend, c.current + 10, c.narrow ? 1 : 0}[what];
        }

        boolean isShip(int n) {
            return in(n, 0, ships.size() - 1);
        }

        int hits(Vessel ship, boolean north) {
            List<Integer> way = new ArrayList<>();
            for (int i = 0; i < cells.size(); i++) {
                way.add(north ? way.size() : 0, i);
            }
            for (int i : way) {
                Cell c = cells.get(i);
                int own = north ? Math.max(c.current, 0) : Math.max(-c.current, 0);
                if (ship.draft >= c.depth || ship.length * c.bend + 50 * own > 1500) {
                    return i;
                }
            }
            return -1;
        }

        int minutes(Vessel ship, int cell, boolean north) {
            int current = cells.get(cell).current;
            return Math.max(1, 6 + ship.length / 100 + (north ? -current : current));
        }

        int tell(List<Told> diary, int most, Told told) {
            if (diary.size() >= most) {
                return -1;
            }
            diary.add(told);
            return diary.size() - 1;
        }

        Told told(boolean passage, int subject, int day, boolean north, int number) {
            return new Told(passage, subject, day, north, number, time, new int[] {-1});
        }

        boolean untell(List<Told> diary, int n) {
            if (!in(n, 0, diary.size() - 1) || diary.get(n).untold[0] >= 0) {
                return false;
            }
            diary.get(n).untold[0] = time;
            return true;
        }

        int later(int by) {
            if (!in(by, 0, 1000) || time + by > 100000) {
                return -1;
            }
            return time += by;
        }

        int peace(int day, int k) {
            for (int d = day; d >= 0; d--) {
                for (int i = facts.size() - 1; i >= 0; i--) {
                    Told f = facts.get(i);
                    if (!f.passage && f.day == d && f.counts(k)) {
                        return f.number;
                    }
                }
            }
            return 0;
        }

        /** By FACT: reason, why, dues; null for what is no PASSAGE that counts. */
        int[][] judge(int shelf, int k, boolean[] inNorth, int[] since, int lastDay) {
            int[][] answers = new int[facts.size()][];
            for (int day = 0; day <= lastDay; day++) {
                for (int i = 0; i < facts.size(); i++) {
                    Told f = facts.get(i);
                    if (f.passage && f.day == day && f.counts(k)) {
                        answers[i] = judgeOne(shelves[shelf], f, inNorth, peace(day, k));
                        if (answers[i][0] == 0) {
                            inNorth[f.subject] = f.north;
                            if (f.north) {
                                since[f.subject] = day;
                            }
                        }
                    }
                }
            }
            return answers;
        }

        private int[] judgeOne(Text text, Told f, boolean[] inNorth, int peace) {
            Vessel ship = ships.get(f.subject);
            if (inNorth[f.subject] ? f.north : !f.north) {
                return new int[] {1, -1, -1};
            }
            if (hits(ship, f.north) >= 0) {
                return new int[] {2, -1, -1};
            }
            if (f.number < text.limits.get("notice")) {
                return new int[] {3, -1, -1};
            }
            Ask ask = new Ask();
            ask.ship = ship;
            ask.north = f.north;
            ask.notice = f.number;
            ask.day = f.day;
            ask.text = text;
            int why = -1;
            for (int i = text.mays.size() - 1; i >= 0; i--) {
                if (text.mays.get(i).which == peace && text.mays.get(i).e.applyAsInt(ask) != 0) {
                    why = i;
                }
            }
            if (why < 0) {
                return new int[] {4, -1, -1};
            }
            if (f.north && ship.war && !ship.shore) {
                int all = ship.tons;
                int own = ship.tons;
                for (int i = 0; i < ships.size(); i++) {
                    Vessel v = ships.get(i);
                    if (inNorth[i] && v.war && !v.shore) {
                        all += v.tons;
                        own += v.land == ship.land ? v.tons : 0;
                    }
                }
                if (all > text.limits.get("sum")) {
                    return new int[] {5, why, -1};
                }
                if (own > text.limits.get("each")) {
                    return new int[] {6, why, -1};
                }
            }
            return new int[] {0, why, Math.max(0, text.dues.applyAsInt(ask))};
        }

        int judged(int shelf, int passage, int k, int which) {
            if (!in(shelf, 0, 3) || !in(passage, 0, facts.size() - 1)) {
                return -1;
            }
            int[] answer = judge(shelf, k, new boolean[20], new int[20], 999)[passage];
            return answer == null ? -1 : answer[which];
        }

        int inside(int shelf, int day, int what, int k) {
            if (!in(shelf, 0, 3) || !in(day, 0, 999) || !in(what, 0, 2)) {
                return -1;
            }
            boolean[] inNorth = new boolean[20];
            int[] since = new int[20];
            judge(shelf, k, inNorth, since, day);
            int[] sums = new int[3];
            for (int i = 0; i < ships.size(); i++) {
                if (inNorth[i] && ships.get(i).war && !ships.get(i).shore) {
                    sums[0] += ships.get(i).tons;
                    sums[1]++;
                    sums[2] += day - since[i] > shelves[shelf].limits.get("stay") ? 1 : 0;
                }
            }
            return sums[what];
        }

        long year(int shelf, int year, int k) {
            if (!in(shelf, 0, 3) || !in(year, 0, 2)) {
                return -1;
            }
            int[][] answers = judge(shelf, k, new boolean[20], new int[20], 999);
            long all = 0;
            for (int i = 0; i < answers.length; i++) {
                if (answers[i] != null && answers[i][0] == 0 && facts.get(i).day / 360 == year) {
                    all += answers[i][2];
                }
            }
            return all;
        }

        boolean gaps(int newGap, int newBlur) {
            if (!in(newGap, 1, 60) || !in(newBlur, 0, 200)) {
                return false;
            }
            gap = newGap;
            blur = newBlur;
            return true;
        }

        /** Rows: FACT, READY, begin, end, place; then, as the last row, WAITING. */
        List<int[]> plan(int shelf, int day, int k) {
            int[][] answers = judge(shelf, k, new boolean[20], new int[20], 999);
            List<int[]> rows = new ArrayList<>();
            int from = -1;
            int to = -1;
            for (int i = 0; i < cells.size(); i++) {
                if (cells.get(i).narrow) {
                    from = from < 0 ? i : from;
                    to = i;
                }
            }
            for (int i = 0; i < answers.length && rows.size() < 8; i++) {
                if (answers[i] != null && answers[i][0] == 0 && facts.get(i).day == day) {
                    int ready = 0;
                    int through = 0;
                    Told f = facts.get(i);
                    for (int c = 0; c < cells.size() && from >= 0; c++) {
                        int m = minutes(ships.get(f.subject), c, f.north);
                        through += c >= from && c <= to ? m : 0;
                        ready += (f.north ? c < from : c > to) ? m : 0;
                    }
                    rows.add(new int[] {i, ready, 0, through, rows.size()});
                }
            }
            int waiting = 0;
            if (from >= 0) {
                int[][] best = new int[rows.size()][];
                waiting = least(rows, new ArrayList<>(), 0, Integer.MAX_VALUE, best);
                rows = new ArrayList<>(Arrays.asList(best));
            }
            rows.add(new int[] {waiting});
            return rows;
        }

        /** Tries every ORDER, the first one first; best gets the rows of the least WAITING. */
        private int least(List<int[]> rows, List<int[]> placed, int waited, int sofar, int[][] best) {
            if (placed.size() == rows.size()) {
                if (waited < sofar) {
                    for (int i = 0; i < best.length; i++) {
                        best[i] = rows.get(i).clone();
                    }
                }
                return Math.min(waited, sofar);
            }
            for (int[] row : rows) {
                if (!placed.contains(row)) {
                    int through = row[3];
                    int begin = row[1];
                    while (!fits(placed, row[0], begin, begin + through)) {
                        begin++;
                    }
                    row[2] = begin;
                    row[3] = begin + through;
                    row[4] = placed.size();
                    placed.add(row);
                    sofar = least(rows, placed, waited + begin - row[1], sofar, best);
                    placed.remove(placed.size() - 1);
                    row[3] = through;
                }
            }
            return sofar;
        }

        private boolean fits(List<int[]> placed, int fact, int begin, int end) {
            for (int[] q : placed) {
                boolean sameWay = facts.get(q[0]).north == facts.get(fact).north;
                if (sameWay ? begin < q[2] + gap || end < q[3] : begin < q[3]) {
                    return false;
                }
            }
            return true;
        }

        int planned(int shelf, int day, int what, int k) {
            if (!in(shelf, 0, 3) || !in(day, 0, 999) || !in(what, 0, 2)) {
                return -1;
            }
            List<int[]> rows = plan(shelf, day, k);
            int waiting = rows.remove(rows.size() - 1)[0];
            return what == 0 ? rows.size() : what == 1 ? waiting : rows.stream().mapToInt(r -> r[3]).max().orElse(0);
        }

        int goes(int shelf, int day, int n, int what, int k) {
            if (!in(shelf, 0, 3) || !in(day, 0, 999) || !in(what, 0, 4)) {
                return -1;
            }
            List<int[]> rows = plan(shelf, day, k);
            return in(n, 0, rows.size() - 2) ? rows.get(n)[what] : -1;
        }

        int sight(int day, int minute, boolean north, int kind) {
            if (!in(day, 0, 999) || !in(minute, 0, 1439) || !in(kind, -1, 5)) {
                return -1;
            }
            if (sightings.stream().filter(s -> s.day == day).count() >= 8) {
                return -1;
            }
            return tell(sightings, 60, told(false, kind, day, north, minute));
        }

        /** The first number: how many READINGS; then, by SIGHTING, the PASSAGES that it is in any. */
        int[] readings(int shelf, int day, int k) {
            List<int[]> rows = plan(shelf, day, k);
            rows.remove(rows.size() - 1);
            return readings(shelf, day, k, rows);
        }

        private int[] readings(int shelf, int day, int k, List<int[]> rows) {
            List<Integer> seen = new ArrayList<>();
            for (int i = 0; i < sightings.size(); i++) {
                if (sightings.get(i).day == day && sightings.get(i).counts(k)) {
                    seen.add(i);
                }
            }
            int[] answer = new int[1 + sightings.size()];
            assign(shelf, rows, seen, new ArrayList<>(), answer);
            return answer;
        }

        private void assign(int shelf, List<int[]> rows, List<Integer> seen, List<Integer> given, int[] answer) {
            if (given.size() == seen.size()) {
                answer[0]++;
                for (int i = 0; i < seen.size(); i++) {
                    answer[1 + seen.get(i)] |= 1 << given.get(i);
                }
                return;
            }
            Told s = sightings.get(seen.get(given.size()));
            for (int p = 0; p < rows.size(); p++) {
                Told f = facts.get(rows.get(p)[0]);
                boolean kind = s.subject == -1 || shelves[shelf].kindOf(ships.get(f.subject)) == s.subject;
                if (!given.contains(p) && f.north == s.north && kind && Math.abs(s.number - rows.get(p)[2]) <= blur) {
                    given.add(p);
                    assign(shelf, rows, seen, given, answer);
                    given.remove(given.size() - 1);
                }
            }
        }

        int could(int shelf, int sighting, int k) {
            if (!in(shelf, 0, 3) || !in(sighting, 0, sightings.size() - 1) || !sightings.get(sighting).counts(k)) {
                return -1;
            }
            return readings(shelf, sightings.get(sighting).day, k)[1 + sighting];
        }

        int oil(int spilled, int tons, int steps, int cell) {
            int n = cells.size();
            boolean place = in(cell, -1, n - 1) || cell == 20;
            if (!in(spilled, 0, n - 1) || !in(tons, 0, 99999) || !in(steps, 0, 1000) || !place) {
                return -1;
            }
            int[] now = new int[n + 2];
            now[spilled + 1] = tons;
            for (int s = 0; s < steps; s++) {
                int[] then = now.clone();
                for (int i = 0; i < n; i++) {
                    int c = cells.get(i).current;
                    int gives = now[i + 1] * Math.abs(c) / 10;
                    then[i + 1] -= gives;
                    then[i + 1 + Integer.signum(c)] += gives;
                }
                now = then;
            }
            return now[cell == 20 ? n + 1 : cell + 1];
        }

        int part(int a, int b, int what) {
            if (!in(a, 0, 3) || !in(b, 0, 3) || !in(what, 0, 5)) {
                return -2;
            }
            boolean shore = !lands.isEmpty() && lands.get(0).shore;
            for (int tons = 0; tons < 100; tons++) {
                for (int guns = 0; guns <= 20; guns++) {
                    for (int rest = 0; rest < 12; rest++) {
                        Vessel v = new Vessel(lands.isEmpty() ? -1 : 0, tons, 100, 5, guns, rest / 2, 0, rest % 2 == 1, shore);
                        int one = shelves[a].kindOf(v);
                        int other = shelves[b].kindOf(v);
                        if (one != other) {
                            return new int[] {tons, guns, rest / 2, rest % 2, one, other}[what];
                        }
                    }
                }
            }
            return -2;
        }

        int about(int what) {
            int[] first = {cells.size(), lands.size(), ships.size(), facts.size(), sightings.size(), time, tape.length()};
            return in(what, 0, 6) ? first[what] : in(what, 10, 13) ? shelves[what - 10].lines : -1;
        }
    }

    // ---- the runs ----

    /** One run: the same calls on a new object and on a new model. */
    static final class Run {
        final int number;
        final Random random;
        final StraitHouse house = new StraitHouse();
        final Model model = new Model();
        // Few days, so that PASSAGES meet.
        final int days;
        // Most runs are tame: their texts have no faults and their SHIPS can mostly pass, so that many meet.
        final boolean tame;
        final StringBuilder log = new StringBuilder();
        boolean wrong;
        int calls;
        int dearCalls;

        Run(int number) {
            this.number = number;
            random = new Random(number * 7919L + 17);
            tame = number % 3 != 0;
            days = tame || random.nextInt(3) == 0 ? 1 + random.nextInt(2) : 1 + random.nextInt(6);
        }

        int play() {
            if (tame || random.nextInt(8) != 0) {
                give(new Texts(random, tame).strait(random.nextInt(4) == 0 ? 20 : 5));
                same("strait()", house.strait(), model.strait());
            }
            for (int i = 0; i < 4 && random.nextInt(5) != 0; i++) {
                give(new Texts(random, tame).convention(model.lands));
                same("convention(" + i + ")", house.convention(i), model.convention(i));
            }
            for (int i = 0; i < 8 && tame; i++) {
                addShip();
            }
            while (calls < CALLS && !wrong) {
                step();
            }
            return wrong ? 1 : 0;
        }

        /** Many SHIPS on one day, and all that is to be known of their PLAN and of SIGHTINGS near it. */
        int crowdDay() {
            feed(new Texts(random, true).strait(random.nextInt(3) == 0 ? 20 : 5));
            same("strait()", house.strait(), model.strait());
            feed("kind big is tons > 50; kind gun is guns > 9 or war; may peace if 1;");
            same("convention(2)", house.convention(2), model.convention(2));
            int many = 1 + random.nextInt(number % 25 == 0 ? 9 : 6);
            boolean alike = random.nextInt(3) == 0;
            for (int i = 0; i < many; i++) {
                int[] a = {0, random.nextInt(100), alike ? 150 : 10 + random.nextInt(391), 1 + random.nextInt(8), random.nextInt(20), 0, 0};
                same("ship" + Arrays.toString(a), house.ship(a[0], a[1], a[2], a[3], a[4], a[5], a[6], false), model.ship(a, false));
                int early = random.nextInt(2);
                for (int way = 0; way <= early; way++) {
                    same("ask", house.ask(i, way == early ? 7 : 3, way == 0, 0), model.tell(model.facts, 200, model.told(true, i, way == early ? 7 : 3, way == 0, 0)));
                }
            }
            int gap = 1 + random.nextInt(random.nextBoolean() ? 60 : 15);
            int blur = random.nextInt(60);
            same("gaps(" + gap + ", " + blur + ")", house.gaps(gap, blur) ? 1 : 0, model.gaps(gap, blur) ? 1 : 0);
            List<int[]> rows = model.plan(2, 7, 0);
            int waiting = rows.remove(rows.size() - 1)[0];
            same("plan(0)", house.plan(2, 7, 0, 0), rows.size());
            same("plan(1)", house.plan(2, 7, 1, 0), waiting);
            same("plan(2)", house.plan(2, 7, 2, 0), rows.stream().mapToInt(r -> r[3]).max().orElse(0));
            for (int n = 0; n <= rows.size(); n++) {
                for (int what = 0; what < 5; what++) {
                    same("goes(" + n + ", " + what + ")", house.goes(2, 7, n, what, 0), n < rows.size() ? rows.get(n)[what] : -1);
                }
            }
            int seen = rows.isEmpty() ? 0 : random.nextInt(rows.size() + 1);
            for (int i = 0; i < seen; i++) {
                int[] row = rows.get(random.nextInt(rows.size()));
                int minute = Math.max(0, row[2] + random.nextInt(2 * blur + 3) - blur - 1);
                int kind = random.nextInt(3) == 0 ? random.nextInt(2) : -1;
                boolean north = model.facts.get(row[0]).north;
                same("sight", house.sight(7, minute, north, kind), model.sight(7, minute, north, kind));
            }
            int[] readings = model.readings(2, 7, 0, rows);
            same("readings", house.readings(2, 7, 0), readings[0]);
            for (int i = 0; i < seen; i++) {
                same("could(" + i + ")", house.could(2, i, 0), readings[1 + i]);
            }
            return wrong ? 1 : 0;
        }

        /** Text behind text, most with a fault. */
        int readTexts() {
            for (int i = 0; i < 12; i++) {
                boolean convention = i % 3 != 0;
                Texts texts = new Texts(random, false);
                give(convention ? texts.convention(model.lands) : texts.strait(21));
                same(convention ? "convention(1)" : "strait()", convention ? house.convention(1) : house.strait(),
                        convention ? model.convention(1) : model.strait());
                faults();
                for (int what : new int[] {0, 1, 6, 11}) {
                    same("about(" + what + ")", house.about(what), model.about(what));
                }
            }
            return wrong ? 1 : 0;
        }

        private void same(String call, long got, long due) {
            calls++;
            log.append(call).append(" -> ").append(got).append('\n');
            if (got != due && !wrong) {
                wrong = true;
                String told = log.toString();
                System.out.println("run " + number + ", .. " + told.substring(Math.max(0, told.length() - 3000)) + "due is " + due);
            }
        }

        /** At times a piece of it alone. */
        private void give(String text) {
            feed(random.nextInt(30) == 0 ? text.substring(0, random.nextInt(text.length() + 1)) : text);
            if (random.nextInt(30) == 0) {
                int length = random.nextInt(text.length() + 2);
                same("end(" + length + ")", house.end(length), model.end(length));
            }
        }

        private void feed(String text) {
            log.append("tape [").append(text).append("]\n");
            byte[] bytes = Arrays.copyOf(text.getBytes(java.nio.charset.StandardCharsets.ISO_8859_1), (text.length() + 19) / 20 * 20);
            java.nio.ByteBuffer numbers = java.nio.ByteBuffer.wrap(bytes);
            while (numbers.hasRemaining()) {
                int[] n = {numbers.getInt(), numbers.getInt(), numbers.getInt(), numbers.getInt(), numbers.getInt()};
                same("feed", house.feed(n[0], n[1], n[2], n[3], n[4]), model.feed(n));
            }
            same("end(" + text.length() + ")", house.end(text.length()), model.end(text.length()));
        }

        /** Mostly a number of the range, at times one at its edges or beyond. */
        private int from(int least, int most) {
            switch (random.nextInt(40)) {
                case 0:
                    return least - 1;
                case 1:
                    return most + 1;
                case 2:
                    return least;
                case 3:
                    return Math.max(least, most);
                case 4:
                    return random.nextInt(3) == 0 ? random.nextInt() : least;
                default:
                    return most < least ? least : least + random.nextInt(most - least + 1);
            }
        }

        private int shelf() {
            return from(0, 3);
        }

        private int day() {
            int roll = random.nextInt(50);
            return roll == 0 ? from(0, 999) : roll == 1 ? 359 + random.nextInt(3) : roll == 2 ? 719 + random.nextInt(3) : random.nextInt(days);
        }

        private int time() {
            return random.nextInt(4) == 0 ? from(-1, model.time + 1) : random.nextInt(20) == 0 ? Integer.MAX_VALUE : model.time;
        }

        private void step() {
            int roll = random.nextInt(100);
            if (roll < 35) {
                tell(roll);
            } else if (roll < 65) {
                judge();
            } else if (roll < 85) {
                order();
            } else {
                look();
            }
        }

        private void tell(int roll) {
            if (roll < (tame ? 4 : 10)) {
                addShip();
            } else if (roll < 25) {
                int s = from(0, model.ships.size() - 1);
                int d = day();
                int n = from(0, 99);
                long before = model.facts.stream().filter(f -> f.passage && f.subject == s).count();
                boolean north = tame && random.nextInt(5) != 0 ? before % 2 == 0 : random.nextInt(3) != 0;
                boolean can = model.isShip(s) && Model.in(d, 0, 999) && Model.in(n, 0, 99);
                same("ask(" + s + ", " + d + ", " + north + ", " + n + ")", house.ask(s, d, north, n),
                        can ? model.tell(model.facts, 200, model.told(true, s, d, north, n)) : -1);
            } else if (roll < 28) {
                int d = day();
                int w = from(0, 2);
                boolean can = Model.in(d, 0, 999) && Model.in(w, 0, 2);
                same("turn(" + d + ", " + w + ")", house.turn(d, w), can ? model.tell(model.facts, 200, model.told(false, 0, d, false, w)) : -1);
            } else if (roll < 30) {
                int f = from(0, model.facts.size() - 1);
                same("untell(" + f + ")", house.untell(f) ? 1 : 0, model.untell(model.facts, f) ? 1 : 0);
            } else if (roll < 31) {
                int by = random.nextInt(3) == 0 ? from(0, 1000) : random.nextInt(3);
                same("later(" + by + ")", house.later(by), model.later(by));
            } else if (roll < 34) {
                int d = day();
                int minute = random.nextInt(9) == 0 ? from(0, 1439) : from(0, 90);
                boolean north = random.nextInt(4) != 0;
                int kind = random.nextBoolean() ? -1 : from(-1, 5);
                same("sight(" + d + ", " + minute + ", " + north + ", " + kind + ")", house.sight(d, minute, north, kind),
                        model.sight(d, minute, north, kind));
            } else {
                retell();
            }
        }

        private void addShip() {
            int[] a = {from(0, model.lands.size() - 1), random.nextInt(3) == 0 ? from(0, 9999) : from(0, 100), from(10, 400), from(1, 12),
                from(0, 20), from(0, 5), from(0, 9)};
            boolean war = random.nextBoolean();
            same("ship" + Arrays.toString(a) + war, house.ship(a[0], a[1], a[2], a[3], a[4], a[5], a[6], war), model.ship(a, war));
        }

        private void retell() {
            int roll = random.nextInt(tame ? 19 : 20);
            if (roll < 8) {
                int s = from(0, model.sightings.size() - 1);
                same("unsight(" + s + ")", house.unsight(s) ? 1 : 0, model.untell(model.sightings, s) ? 1 : 0);
            } else if (roll < 12) {
                int g = from(1, 60);
                int b = from(0, 200);
                same("gaps(" + g + ", " + b + ")", house.gaps(g, b) ? 1 : 0, model.gaps(g, b) ? 1 : 0);
            } else if (roll < 18) {
                int s = shelf();
                give(new Texts(random, tame).convention(model.lands));
                same("convention(" + s + ")", house.convention(s), model.convention(s));
                faults();
            } else {
                give(new Texts(random, tame).strait(5));
                same("strait()", house.strait(), model.strait());
                faults();
            }
        }

        private void faults() {
            for (int what = -1; what <= 2; what++) {
                same("fault(" + what + ")", house.fault(what), model.fault(what));
            }
        }

        private void judge() {
            int s = shelf();
            int p = from(0, model.facts.size() - 1);
            int k = time();
            switch (random.nextInt(6)) {
                case 0:
                    same("reason(" + s + ", " + p + ", " + k + ")", house.reason(s, p, k), model.judged(s, p, k, 0));
                    break;
                case 1:
                    same("why(" + s + ", " + p + ", " + k + ")", house.why(s, p, k), model.judged(s, p, k, 1));
                    break;
                case 2:
                    same("dues(" + s + ", " + p + ", " + k + ")", house.dues(s, p, k), model.judged(s, p, k, 2));
                    break;
                case 3:
                    int y = from(0, 2);
                    same("year(" + s + ", " + y + ", " + k + ")", house.year(s, y, k), model.year(s, y, k));
                    break;
                case 4:
                    int d = random.nextInt(3) == 0 ? from(0, 999) : day();
                    same("peace(" + d + ", " + k + ")", house.peace(d, k), Model.in(d, 0, 999) ? model.peace(d, k) : -1);
                    break;
                default:
                    int on = random.nextInt(3) == 0 ? from(0, 999) : day();
                    int what = from(0, 2);
                    same("inside(" + s + ", " + on + ", " + what + ", " + k + ")", house.inside(s, on, what, k), model.inside(s, on, what, k));
            }
        }

        private void order() {
            int s = shelf();
            int d = day();
            int k = time();
            // The model tries all ORDERS of a day: few calls of a run are for days with many PASSAGES.
            if (countOn(d) > 6 && dearCalls++ > 8) {
                return;
            }
            switch (random.nextInt(4)) {
                case 0:
                    int what = from(0, 2);
                    same("plan(" + s + ", " + d + ", " + what + ", " + k + ")", house.plan(s, d, what, k), model.planned(s, d, what, k));
                    break;
                case 1:
                    int n = from(0, 3);
                    int which = from(0, 4);
                    same("goes(" + s + ", " + d + ", " + n + ", " + which + ", " + k + ")", house.goes(s, d, n, which, k), model.goes(s, d, n, which, k));
                    break;
                case 2:
                    boolean can = Model.in(s, 0, 3) && Model.in(d, 0, 999);
                    same("readings(" + s + ", " + d + ", " + k + ")", house.readings(s, d, k), can ? model.readings(s, d, k)[0] : -1);
                    break;
                default:
                    int i = from(0, model.sightings.size() - 1);
                    same("could(" + s + ", " + i + ", " + k + ")", house.could(s, i, k), model.could(s, i, k));
            }
        }

        private long countOn(int day) {
            return model.facts.stream().filter(f -> f.passage && f.day == day).count();
        }

        private void look() {
            switch (random.nextInt(6)) {
                case 0:
                    int c = from(0, model.cells.size() - 1);
                    int what = from(0, 3);
                    same("cell(" + c + ", " + what + ")", house.cell(c, what), model.cell(c, what));
                    break;
                case 1:
                    int s = from(0, model.ships.size() - 1);
                    boolean north = random.nextBoolean();
                    same("hits(" + s + ", " + north + ")", house.hits(s, north), model.isShip(s) ? model.hits(model.ships.get(s), north) : -1);
                    break;
                case 2:
                    int v = from(0, model.ships.size() - 1);
                    int in = from(0, model.cells.size() - 1);
                    boolean up = random.nextBoolean();
                    boolean can = model.isShip(v) && Model.in(in, 0, model.cells.size() - 1);
                    same("minutes(" + v + ", " + in + ", " + up + ")", house.minutes(v, in, up), can ? model.minutes(model.ships.get(v), in, up) : -1);
                    break;
                case 3:
                    int shelf = shelf();
                    int ship = from(0, model.ships.size() - 1);
                    boolean both = Model.in(shelf, 0, 3) && model.isShip(ship);
                    same("kind(" + shelf + ", " + ship + ")", house.kind(shelf, ship), both ? model.shelves[shelf].kindOf(model.ships.get(ship)) : -1);
                    break;
                case 4:
                    int[] o = {from(0, model.cells.size() - 1), from(0, 99999), random.nextInt(3) == 0 ? from(0, 1000) : from(0, 9),
                        random.nextInt(5) == 0 ? 20 : from(-1, model.cells.size() - 1)};
                    same("oil" + Arrays.toString(o), house.oil(o[0], o[1], o[2], o[3]), model.oil(o[0], o[1], o[2], o[3]));
                    break;
                default:
                    int w = from(0, 13);
                    same("about(" + w + ")", house.about(w), model.about(w));
                    if (random.nextInt(12) == 0) {
                        int a = shelf();
                        int b = shelf();
                        int which = from(0, 5);
                        same("part(" + a + ", " + b + ", " + which + ")", house.part(a, b, which), model.part(a, b, which));
                    }
            }
        }
    }

    /** Texts that mostly keep to the grammar. */
    static final class Texts {
        final Random random;
        final StringBuilder out = new StringBuilder();
        List<String> kinds = new ArrayList<>();
        List<Land> lands = List.of();
        boolean kindLine;
        static final String[] NAMES = {"ana", "bor", "cid", "d", "eeeeeeee", "big", "gun", "x", "y", "zzz", "lands", "no"};
        static final String[] WORDS = {"cell", "depth", "bend", "flow", "back", "narrow", "land", "shore", "kind", "is", "may", "if", "peace",
            "threat", "war", "sum", "each", "stay", "notice", "dues", "and", "or", "not", "tons", "length", "draft", "guns", "decks", "load",
            "north", "day", ";", "(", ")", "<", ">", "=", "+", "-", "*", "0", "7", "99", "100", "9999", "12345", "abcdefghi", "5a", "?", "A"};

        final boolean tame;

        Texts(Random random, boolean tame) {
            this.random = random;
            this.tame = tame;
        }

        /** A thing that makes a fault likely, which tame texts do without. */
        private boolean slip(int of) {
            return !tame && odds(of);
        }

        private boolean odds(int of) {
            return random.nextInt(of) == 0;
        }

        private void put(String token) {
            String t = slip(700) ? WORDS[random.nextInt(WORDS.length)] : token;
            boolean glued = out.length() > 0 && Character.isLetterOrDigit(out.charAt(out.length() - 1)) && Character.isLetterOrDigit(t.charAt(0));
            if (glued ? !slip(1500) : odds(3)) {
                out.append(odds(9) ? "\n " : " ");
            }
            out.append(t);
        }

        private void puts(String tokens) {
            for (String t : tokens.split(" ")) {
                put(t);
            }
        }

        private void number(int least, int most) {
            put((odds(20) && most < 1000 ? "0" : "") + (slip(150) ? most + 1 : least + random.nextInt(most - least + 1)));
        }

        private String pick(String... of) {
            return of[random.nextInt(of.length)];
        }

        String strait(int mostCells) {
            int cells = random.nextInt(mostCells + 1);
            int lands = tame ? 3 : random.nextInt(5);
            if (slip(40)) {
                cells = odds(2) ? 21 : 20;
                lands = odds(2) ? 9 : 8;
            }
            boolean gorge = !odds(5);
            for (int i = 0; i < cells + lands; i++) {
                if (i < cells) {
                    puts("cell depth");
                    number(slip(9) ? 1 : odds(9) ? 9 : 14, odds(3) ? 99 : 30);
                    put("bend");
                    number(0, slip(3) ? 9 : 3);
                    put(pick("flow", "back"));
                    number(0, tame ? 4 : 9);
                    if (gorge && odds(3)) {
                        put("narrow");
                    }
                } else {
                    put("land");
                    put(i - cells < NAMES.length && !slip(30) ? NAMES[i - cells] : pick(NAMES));
                    if (odds(3)) {
                        put("shore");
                    }
                }
                put(";");
            }
            return cutTo(out.toString());
        }

        private static String cutTo(String text) {
            return text.length() > 1200 ? text.substring(0, 1200) : text;
        }

        String convention(List<Land> landsTold) {
            lands = landsTold;
            int many = random.nextInt(tame ? 9 : 14);
            if (tame && !odds(4)) {
                puts("may threat if tons < 9000 ; may war if not ( shore and guns > 9 ) ;");
            }
            if (!odds(4)) {
                puts("may peace if");
                kindLine = false;
                put(odds(2) ? "1" : "tons");
                put(";");
            }
            int deep = odds(8) ? 7 : 2;
            for (int i = 0; i < many; i++) {
                line(deep);
                put(";");
            }
            if (slip(5)) {
                wide();
            }
            return cutTo(out.toString());
        }

        /** Runs into the bounds on units and on what stands within what. */
        private void wide() {
            put("dues");
            if (odds(2)) {
                for (int i = 0; i < 5 + random.nextInt(5); i++) {
                    put(pick("not", "("));
                }
                put("1");
                for (int i = 0; i < 9; i++) {
                    put(")");
                }
            } else {
                put("1");
                int many = 60 + random.nextInt(60);
                for (int i = 0; i < many; i++) {
                    put("+");
                    put(pick("1", "2", "day"));
                }
            }
            put(";");
        }

        private void line(int deep) {
            kindLine = false;
            switch (random.nextInt(8)) {
                case 0:
                case 1:
                case 2:
                    put("kind");
                    String name = pick(NAMES);
                    for (int i = 0; i < 9 && kinds.contains(name) && !slip(20); i++) {
                        name = pick(NAMES);
                    }
                    put(name);
                    put("is");
                    kindLine = true;
                    either(deep);
                    kinds.add(name);
                    break;
                case 3:
                case 4:
                    put("may");
                    put(pick("peace", "peace", "threat", "war"));
                    put("if");
                    either(deep);
                    break;
                case 5:
                    String limit = pick("sum", "each", "stay", "notice");
                    if (!out.toString().contains(limit) || slip(20)) {
                        put(limit);
                        number(0, limit.equals("stay") ? 5 : limit.equals("notice") ? (tame ? 9 : 40) : odds(3) ? 9999 : 120);
                    } else {
                        puts("may war if 1");
                    }
                    break;
                default:
                    if (!out.toString().contains("dues") || slip(20)) {
                        put("dues");
                        either(deep);
                    } else {
                        puts("may peace if 1");
                    }
            }
        }

        private void either(int deep) {
            both(deep);
            while (odds(4)) {
                put("or");
                both(deep);
            }
        }

        private void both(int deep) {
            one(deep);
            while (odds(4)) {
                put("and");
                one(deep);
            }
        }

        private void one(int deep) {
            if (odds(6) && deep > 0) {
                put("not");
                one(deep - 1);
                return;
            }
            sum(deep);
            if (odds(2)) {
                put(pick("<", ">", "="));
                sum(deep);
            }
        }

        private void sum(int deep) {
            term(deep);
            while (odds(4)) {
                put(pick("+", "-"));
                term(deep);
            }
        }

        private void term(int deep) {
            unit(deep);
            while (odds(5)) {
                put("*");
                unit(deep);
            }
        }

        private void unit(int deep) {
            int roll = random.nextInt(14);
            if (roll < 5) {
                number(0, odds(5) ? 9999 : 60);
            } else if (roll < 10) {
                put(pick("tons", "tons", "guns", "decks", "war", "length", "draft", "load", "shore"));
            } else if (roll == 10 && (!kindLine || slip(60))) {
                put(pick("north", "notice", "day"));
            } else if (roll == 11 && (!kinds.isEmpty() || slip(60))) {
                put("kind");
                put(kinds.isEmpty() || slip(40) ? pick(NAMES) : kinds.get(random.nextInt(kinds.size())));
            } else if (roll == 12 && (!lands.isEmpty() || slip(60))) {
                put("land");
                put(lands.isEmpty() || slip(40) ? pick(NAMES) : lands.get(random.nextInt(lands.size())).name());
            } else if (roll == 13 && deep > 0) {
                put("(");
                either(deep - 1);
                put(")");
            } else {
                put("1");
            }
        }
    }
}
