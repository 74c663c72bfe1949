/**
 * A house that keeps a strait between two seas, reads conventions over it, and answers who may pass.
 * The words in capitals are those of the document.
 */
public final class StraitHouse {
    public static final int NONE = -1;

    private static final int NO_SUCH = -2;
    private static final int NORTH_SEA = 20;

    private static final int MOST_BYTES = 1200;
    private static final int MOST_CELLS = 20;
    private static final int MOST_LANDS = 8;
    private static final int MOST_SHELVES = 4;
    private static final int MOST_KINDS = 6;
    private static final int MOST_MAYS = 8;
    private static final int MOST_UNITS = 100;
    private static final int MOST_AROUND = 6;
    private static final int MOST_SHIPS = 20;
    private static final int MOST_FACTS = 200;
    private static final int MOST_SIGHTINGS = 60;
    private static final int MOST_ON_A_DAY = 8;
    private static final int MOST_TIME = 100000;
    private static final int DAYS = 1000;
    private static final int DAYS_OF_A_YEAR = 360;

    private static final int NO_TOKEN = 1;
    private static final int MISPLACED = 2;
    private static final int TOLD_ALREADY = 3;
    private static final int BAD_NUMBER = 4;
    private static final int UNKNOWN_NAME = 5;
    private static final int NOT_ASKED_FOR = 6;

    // The types of TOKENS. A sign's type is its byte, a word's is FIRST_WORD and its place among all words.
    private static final int END = 0;
    private static final int BAD = 1;
    private static final int NAME = 2;
    private static final int NUMBER = 3;
    private static final int FIRST_WORD = 100;
    private static final int TONS = 100;
    private static final int LENGTH = 101;
    private static final int DRAFT = 102;
    private static final int GUNS = 103;
    private static final int DECKS = 104;
    private static final int LOAD = 105;
    private static final int WAR = 106;
    private static final int SHORE = 107;
    private static final int NORTH = 108;
    private static final int NOTICE = 109;
    private static final int DAY = 110;
    private static final int KIND = 111;
    private static final int LAND = 112;
    private static final int NOT = 113;
    private static final int OR = 114;
    private static final int AND = 115;
    private static final int CELL = 116;
    private static final int DEPTH = 117;
    private static final int BEND = 118;
    private static final int FLOW = 119;
    private static final int BACK = 120;
    private static final int NARROW = 121;
    private static final int IS = 122;
    private static final int MAY = 123;
    private static final int IF = 124;
    private static final int PEACE = 125;
    private static final int THREAT = 126;
    private static final int SUM = 127;
    private static final int EACH = 128;
    private static final int STAY = 129;
    private static final int DUES = 130;
    private static final int WORD_COUNT = 31;
    // The words that a SHIP or a PASSAGE gives a number for stand first, so that a row can hold these numbers.
    private static final int GIVEN_COUNT = 11;
    private static final String UNIT_WORDS = "tons length draft guns decks load war shore north notice day kind land ";
    private static final String OTHER_WORDS = "not or and cell depth bend flow back narrow is may if peace threat sum each stay dues ";
    private static final String SIGNS = ";()<>=+-*";

    private final int[] tape = new int[MOST_BYTES];
    private int taped;
    private final Tokens tokens = new Tokens();
    private Strait strait = new Strait();
    private Strait spareStrait = new Strait();
    private final Convention[] shelves = new Convention[MOST_SHELVES];
    private Convention spareConvention = new Convention();
    private final ConventionReader reader = new ConventionReader();
    private final Ship[] ships = new Ship[MOST_SHIPS];
    private int shipCount;
    private final Diary facts = new Diary(MOST_FACTS);
    private final Diary sightings = new Diary(MOST_SIGHTINGS);
    private final Evaluator evaluator = new Evaluator();
    private final Ledger ledger = new Ledger();
    private final Plan dayPlan = new Plan();
    private final Matching matching = new Matching();
    private final Parting parting = new Parting();
    private int time;
    private int gap = 10;
    private int blur = 30;
    // Goes up with every change, so that what was worked out for the call before can be used again or not.
    private int changes;

    public StraitHouse() {
        for (int i = 0; i < MOST_SHELVES; i++) {
            shelves[i] = new Convention();
        }
        for (int i = 0; i < MOST_SHIPS; i++) {
            ships[i] = new Ship();
        }
    }

    public int feed(int a, int b, int c, int d, int e) {
        if (taped + 20 > MOST_BYTES) {
            return NONE;
        }
        putNumber(a);
        putNumber(b);
        putNumber(c);
        putNumber(d);
        putNumber(e);
        return taped;
    }

    private void putNumber(int number) {
        for (int shift = 24; shift >= 0; shift -= 8) {
            if (taped < MOST_BYTES) {
                tape[taped] = (number >> shift) & 255;
                taped++;
            }
        }
    }

    public int end(int n) {
        if (n < 0 || n > taped) {
            return NONE;
        }
        taped = n;
        return n;
    }

    public int strait() {
        takeTape();
        spareStrait.read(tokens);
        if (tokens.fault != 0) {
            return NONE;
        }
        Strait old = strait;
        strait = spareStrait;
        spareStrait = old;
        for (int i = 0; i < MOST_SHELVES; i++) {
            shelves[i].clear();
        }
        shipCount = 0;
        facts.clear();
        sightings.clear();
        changes++;
        return strait.lines;
    }

    public int convention(int shelf) {
        if (!isShelf(shelf)) {
            return NO_SUCH;
        }
        takeTape();
        reader.read(tokens, strait, spareConvention);
        if (tokens.fault != 0) {
            return NONE;
        }
        Convention old = shelves[shelf];
        shelves[shelf] = spareConvention;
        spareConvention = old;
        changes++;
        return shelves[shelf].lines;
    }

    private void takeTape() {
        tokens.read(tape, taped);
        taped = 0;
    }

    public int fault(int what) {
        switch (what) {
            case 0:
                return tokens.fault;
            case 1:
                return tokens.faultPlace;
            default:
                return NONE;
        }
    }

    public int ship(int land, int tons, int length, int draft, int guns, int decks, int load, boolean war) {
        boolean can = isWithin(land, 0, strait.lands - 1) && isWithin(tons, 0, 9999) && isWithin(length, 10, 400)
                && isWithin(draft, 1, 30) && isWithin(guns, 0, 20) && isWithin(decks, 0, 5) && isWithin(load, 0, 9);
        if (!can || shipCount >= MOST_SHIPS) {
            return NONE;
        }
        Ship made = ships[shipCount];
        made.land = land;
        made.tons = tons;
        made.length = length;
        made.draft = draft;
        made.guns = guns;
        made.decks = decks;
        made.load = load;
        made.war = war;
        made.shore = strait.shore[land];
        shipCount++;
        changes++;
        return shipCount - 1;
    }

    public int cell(int cell, int what) {
        if (!isCell(cell)) {
            return NONE;
        }
        switch (what) {
            case 0:
                return strait.depth[cell];
            case 1:
                return strait.bend[cell];
            case 2:
                return strait.current[cell] + 10;
            case 3:
                return strait.narrow[cell] ? 1 : 0;
            default:
                return NONE;
        }
    }

    public int hits(int ship, boolean north) {
        return isShip(ship) ? strait.firstHit(ships[ship], north) : NONE;
    }

    public int minutes(int ship, int cell, boolean north) {
        return isShip(ship) && isCell(cell) ? strait.minutesIn(ships[ship], cell, north) : NONE;
    }

    public int kind(int shelf, int ship) {
        if (!isShelf(shelf) || !isShip(ship)) {
            return NONE;
        }
        evaluator.giveShip(ships[ship]);
        return evaluator.kindBy(shelves[shelf]);
    }

    public int turn(int day, int which) {
        if (!isDay(day) || !isWithin(which, 0, 2)) {
            return NONE;
        }
        changes++;
        return facts.write(day, NONE, false, which, time);
    }

    public int ask(int ship, int day, boolean north, int notice) {
        if (!isShip(ship) || !isDay(day) || !isWithin(notice, 0, 99)) {
            return NONE;
        }
        changes++;
        return facts.write(day, ship, north, notice, time);
    }

    public boolean untell(int fact) {
        changes++;
        return facts.strike(fact, time);
    }

    public int later(int by) {
        if (!isWithin(by, 0, 1000) || time + by > MOST_TIME) {
            return NONE;
        }
        time += by;
        return time;
    }

    public int peace(int day, int k) {
        if (!isDay(day)) {
            return NONE;
        }
        int which = 0;
        int since = NONE;
        for (int i = 0; i < facts.count; i++) {
            boolean isCase = facts.subject[i] == NONE && facts.counts(i, k);
            if (isCase && facts.day[i] <= day && facts.day[i] >= since) {
                since = facts.day[i];
                which = facts.number[i];
            }
        }
        return which;
    }

    public int reason(int shelf, int passage, int k) {
        if (!isShelf(shelf) || !facts.has(passage)) {
            return NONE;
        }
        openLedger(shelf, k);
        return ledger.reasons[passage];
    }

    public int why(int shelf, int passage, int k) {
        if (!isShelf(shelf) || !facts.has(passage)) {
            return NONE;
        }
        openLedger(shelf, k);
        return ledger.whys[passage];
    }

    public int inside(int shelf, int day, int what, int k) {
        if (!isShelf(shelf) || !isDay(day) || !isWithin(what, 0, 2)) {
            return NONE;
        }
        openLedger(shelf, k);
        ledger.settle(day);
        int tons = 0;
        int many = 0;
        int late = 0;
        for (int i = 0; i < shipCount; i++) {
            if (ledger.inNorth[i] && ships[i].isForeignWarship()) {
                tons += ships[i].tons;
                many++;
                late += day - ledger.since[i] > shelves[shelf].stay ? 1 : 0;
            }
        }
        return what == 0 ? tons : what == 1 ? many : late;
    }

    public int dues(int shelf, int passage, int k) {
        if (!isShelf(shelf) || !facts.has(passage)) {
            return NONE;
        }
        openLedger(shelf, k);
        return ledger.duesOwed[passage];
    }

    public long year(int shelf, int year, int k) {
        if (!isShelf(shelf) || !isWithin(year, 0, 2)) {
            return NONE;
        }
        openLedger(shelf, k);
        long all = 0;
        for (int i = 0; i < facts.count; i++) {
            if (ledger.reasons[i] == 0 && facts.day[i] / DAYS_OF_A_YEAR == year) {
                all += ledger.duesOwed[i];
            }
        }
        return all;
    }

    public boolean gaps(int gap, int blur) {
        if (!isWithin(gap, 1, 60) || !isWithin(blur, 0, 200)) {
            return false;
        }
        this.gap = gap;
        this.blur = blur;
        changes++;
        return true;
    }

    public int plan(int shelf, int day, int what, int k) {
        if (!isShelf(shelf) || !isDay(day)) {
            return NONE;
        }
        openPlan(shelf, day, k);
        switch (what) {
            case 0:
                return dayPlan.count;
            case 1:
                return dayPlan.waiting;
            case 2:
                return dayPlan.lastEnd();
            default:
                return NONE;
        }
    }

    public int goes(int shelf, int day, int n, int what, int k) {
        if (!isShelf(shelf) || !isDay(day)) {
            return NONE;
        }
        openPlan(shelf, day, k);
        if (!isWithin(n, 0, dayPlan.count - 1)) {
            return NONE;
        }
        switch (what) {
            case 0:
                return dayPlan.facts[n];
            case 1:
                return dayPlan.ready[n];
            case 2:
                return dayPlan.begin[n];
            case 3:
                return dayPlan.begin[n] + dayPlan.through[n];
            case 4:
                return dayPlan.place[n];
            default:
                return NONE;
        }
    }

    public int sight(int day, int minute, boolean north, int kind) {
        if (!isDay(day) || !isWithin(minute, 0, 1439) || !isWithin(kind, NONE, MOST_KINDS - 1)) {
            return NONE;
        }
        if (sightings.countOn(day) >= MOST_ON_A_DAY) {
            return NONE;
        }
        return sightings.write(day, kind, north, minute, time);
    }

    public boolean unsight(int sighting) {
        return sightings.strike(sighting, time);
    }

    public int readings(int shelf, int day, int k) {
        if (!isShelf(shelf) || !isDay(day)) {
            return NONE;
        }
        openPlan(shelf, day, k);
        fillRows(shelf, day, k);
        return matching.countWays(NONE, 0);
    }

    public int could(int shelf, int sighting, int k) {
        if (!isShelf(shelf) || !sightings.has(sighting) || !sightings.counts(sighting, k)) {
            return NONE;
        }
        int day = sightings.day[sighting];
        openPlan(shelf, day, k);
        fillRows(shelf, day, k);
        return matching.placesOf(sighting);
    }

    public int oil(int spilled, int tons, int steps, int cell) {
        boolean isPlace = isCell(cell) || cell == NONE || cell == NORTH_SEA;
        if (!isCell(spilled) || !isWithin(tons, 0, 99999) || !isWithin(steps, 0, 1000) || !isPlace) {
            return NONE;
        }
        strait.spill(spilled, tons);
        for (int i = 0; i < steps; i++) {
            strait.drift();
        }
        return strait.oilIn(cell);
    }

    public int part(int a, int b, int what) {
        if (!isShelf(a) || !isShelf(b) || !isWithin(what, 0, 5) || a == b) {
            return NO_SUCH;
        }
        if (parting.turnTo(a, b, changes)) {
            parting.search(shelves[a], shelves[b], evaluator, strait);
        }
        return parting.found ? parting.answers[what] : NO_SUCH;
    }

    public int about(int what) {
        switch (what) {
            case 0:
                return strait.cells;
            case 1:
                return strait.lands;
            case 2:
                return shipCount;
            case 3:
                return facts.count;
            case 4:
                return sightings.count;
            case 5:
                return time;
            case 6:
                return taped;
            default:
                return isShelf(what - 10) ? shelves[what - 10].lines : NONE;
        }
    }

    private static boolean isWithin(int number, int least, int most) {
        return number >= least && number <= most;
    }

    private static boolean isDay(int day) {
        return day >= 0 && day < DAYS;
    }

    private static boolean isShelf(int shelf) {
        return shelf >= 0 && shelf < MOST_SHELVES;
    }

    private boolean isShip(int ship) {
        return ship >= 0 && ship < shipCount;
    }

    private boolean isCell(int cell) {
        return cell >= 0 && cell < strait.cells;
    }

    private void openLedger(int shelf, int k) {
        if (ledger.turnTo(shelf, k, changes)) {
            ledger.judgeAll(facts, ships, strait, shelves[shelf], evaluator);
        }
    }

    private void openPlan(int shelf, int day, int k) {
        openLedger(shelf, k);
        if (dayPlan.turnTo(shelf, day, k, changes)) {
            dayPlan.takeDay(ledger, facts, ships, strait);
            dayPlan.arrange(gap);
        }
    }

    private void fillRows(int shelf, int day, int k) {
        matching.clear();
        for (int i = 0; i < sightings.count; i++) {
            if (sightings.day[i] == day && sightings.counts(i, k)) {
                matching.addRow(i, placesLike(i, shelf));
            }
        }
    }

    /** The PASSAGES of the PLAN, as bits, that a SIGHTING MAY be. */
    private int placesLike(int sighting, int shelf) {
        int places = 0;
        for (int p = 0; p < dayPlan.count; p++) {
            boolean near = Math.abs(sightings.number[sighting] - dayPlan.begin[p]) <= blur;
            if (near && dayPlan.north[p] == sightings.north[sighting] && isOfKind(dayPlan.facts[p], sightings.subject[sighting], shelf)) {
                places |= 1 << p;
            }
        }
        return places;
    }

    private boolean isOfKind(int fact, int wanted, int shelf) {
        if (wanted == NONE) {
            return true;
        }
        evaluator.giveShip(ships[facts.subject[fact]]);
        return evaluator.kindBy(shelves[shelf]) == wanted;
    }

    /** A text cut into TOKENS, with a place up to which it has been read, and the first FAULT. */
    private static final class Tokens {
        private final long[] words = new long[WORD_COUNT];
        private final int[] types = new int[MOST_BYTES + 1];
        private final int[] places = new int[MOST_BYTES + 1];
        // A number, or the letters of a word packed into one number, so that names can be compared.
        private final long[] values = new long[MOST_BYTES + 1];
        private int count;
        private int at;
        int fault;
        int faultPlace = NONE;

        Tokens() {
            int next = packWords(UNIT_WORDS, 0);
            packWords(OTHER_WORDS, next);
        }

        private int packWords(String list, int from) {
            int word = from;
            long packed = 0;
            for (int i = 0; i < list.length(); i++) {
                if (list.charAt(i) != ' ') {
                    packed = withLetter(packed, list.charAt(i));
                } else if (word < WORD_COUNT) {
                    words[word] = packed;
                    word++;
                    packed = 0;
                }
            }
            return word;
        }

        private static long withLetter(long packed, int letter) {
            return packed * 32 + (letter - 'a' + 1);
        }

        void read(int[] text, int length) {
            count = 0;
            at = 0;
            fault = 0;
            faultPlace = NONE;
            int from = 0;
            for (int i = 0; i < length && from < length && !endsBad(); i++) {
                from = text[from] == ' ' || text[from] == '\n' ? from + 1 : cut(text, from, length);
            }
            add(END, length, 0);
        }

        private boolean endsBad() {
            return count > 0 && types[count - 1] == BAD;
        }

        private void add(int type, int place, long value) {
            if (count < types.length) {
                types[count] = type;
                places[count] = place;
                values[count] = value;
                count++;
            }
        }

        /** Cuts one TOKEN off and answers where the next may begin. */
        private int cut(int[] text, int from, int length) {
            if (isLetter(text[from])) {
                return cutWord(text, from, length);
            }
            if (isDigit(text[from])) {
                return cutNumber(text, from, length);
            }
            boolean isSign = text[from] < 128 && SIGNS.indexOf((char) text[from]) >= 0;
            add(isSign ? text[from] : BAD, from, 0);
            return from + 1;
        }

        private int cutWord(int[] text, int from, int length) {
            int to = from;
            long packed = 0;
            while (to < length && isLetter(text[to])) {
                packed = withLetter(packed, text[to]);
                to++;
            }
            add(to - from > 8 ? BAD : typeOf(packed), from, packed);
            return to;
        }

        private int cutNumber(int[] text, int from, int length) {
            int to = from;
            int number = 0;
            while (to < length && isDigit(text[to])) {
                number = number * 10 + (text[to] - '0');
                to++;
            }
            boolean runsIntoWord = to < length && isLetter(text[to]);
            add(to - from > 4 || runsIntoWord ? BAD : NUMBER, from, number);
            return to;
        }

        private int typeOf(long packed) {
            for (int i = 0; i < WORD_COUNT; i++) {
                if (words[i] == packed) {
                    return FIRST_WORD + i;
                }
            }
            return NAME;
        }

        private static boolean isLetter(int sign) {
            return sign >= 'a' && sign <= 'z';
        }

        private static boolean isDigit(int sign) {
            return sign >= '0' && sign <= '9';
        }

        int type() {
            return types[at];
        }

        long value() {
            return values[at];
        }

        void step() {
            if (at < count - 1) {
                at++;
            }
        }

        /** Keeps the first FAULT and goes to the end, so that nothing behind it is read. */
        void refuse(int code) {
            if (fault == 0) {
                fault = types[at] == BAD ? NO_TOKEN : code;
                faultPlace = places[at];
                at = count - 1;
            }
        }

        boolean accept(int type) {
            if (types[at] != type) {
                return false;
            }
            step();
            return true;
        }

        void demand(int type) {
            if (!accept(type)) {
                refuse(MISPLACED);
            }
        }

        int demandNumber(int least, int most) {
            int number = (int) values[at];
            if (types[at] != NUMBER) {
                refuse(MISPLACED);
            } else if (number < least || number > most) {
                refuse(BAD_NUMBER);
            } else {
                step();
            }
            return number;
        }

        /** A NAME that is none of the first so many of a row. */
        long demandNewName(long[] told, int many) {
            long name = values[at];
            if (types[at] != NAME) {
                refuse(MISPLACED);
            } else if (indexOf(name, told, many) != NONE) {
                refuse(TOLD_ALREADY);
            } else {
                step();
            }
            return name;
        }

        /** The number of a NAME among the first so many of a row. */
        int demandKnownName(long[] told, int many) {
            int index = indexOf(values[at], told, many);
            if (types[at] != NAME) {
                refuse(MISPLACED);
            } else if (index == NONE) {
                refuse(UNKNOWN_NAME);
            } else {
                step();
            }
            return index;
        }

        private static int indexOf(long name, long[] told, int many) {
            for (int i = 0; i < many && i < told.length; i++) {
                if (told[i] == name) {
                    return i;
                }
            }
            return NONE;
        }
    }

    /** THE STRAIT: its CELLS from south to north, and the LANDS. */
    private static final class Strait {
        final int[] depth = new int[MOST_CELLS];
        final int[] bend = new int[MOST_CELLS];
        // To the north; below 0 to the south.
        final int[] current = new int[MOST_CELLS];
        final boolean[] narrow = new boolean[MOST_CELLS];
        int cells;
        final long[] landNames = new long[MOST_LANDS];
        final boolean[] shore = new boolean[MOST_LANDS];
        int lands;
        int lines;
        int gorgeFrom = NONE;
        int gorgeTo = NONE;
        // The south sea, the CELLS, the north sea.
        private final int[] oilAt = new int[MOST_CELLS + 2];
        private final int[] given = new int[MOST_CELLS];

        void read(Tokens tokens) {
            cells = 0;
            lands = 0;
            lines = 0;
            gorgeFrom = NONE;
            gorgeTo = NONE;
            for (int i = 0; i < MOST_BYTES && tokens.type() != END; i++) {
                if (tokens.type() == CELL && cells < MOST_CELLS) {
                    readCell(tokens);
                } else if (tokens.type() == LAND && lands < MOST_LANDS) {
                    readLand(tokens);
                } else {
                    tokens.refuse(MISPLACED);
                }
                lines++;
            }
        }

        private void readCell(Tokens tokens) {
            tokens.step();
            tokens.demand(DEPTH);
            depth[cells] = tokens.demandNumber(1, 99);
            tokens.demand(BEND);
            bend[cells] = tokens.demandNumber(0, 9);
            boolean back = tokens.accept(BACK);
            if (!back) {
                tokens.demand(FLOW);
            }
            int strength = tokens.demandNumber(0, 9);
            current[cells] = back ? -strength : strength;
            narrow[cells] = tokens.accept(NARROW);
            tokens.demand(';');
            if (narrow[cells]) {
                gorgeFrom = gorgeFrom == NONE ? cells : gorgeFrom;
                gorgeTo = cells;
            }
            cells++;
        }

        private void readLand(Tokens tokens) {
            tokens.step();
            landNames[lands] = tokens.demandNewName(landNames, lands);
            shore[lands] = tokens.accept(SHORE);
            tokens.demand(';');
            lands++;
        }

        boolean hasGorge() {
            return gorgeFrom != NONE;
        }

        /** Below 0 if it runs against one that goes this way. */
        private int currentAlong(int cell, boolean north) {
            return north ? current[cell] : -current[cell];
        }

        int firstHit(Ship ship, boolean north) {
            for (int i = 0; i < cells; i++) {
                int cell = north ? i : cells - 1 - i;
                if (isHit(ship, cell, north)) {
                    return cell;
                }
            }
            return NONE;
        }

        private boolean isHit(Ship ship, int cell, boolean north) {
            int push = Math.max(0, currentAlong(cell, north));
            return ship.draft > depth[cell] - 1 || ship.length * bend[cell] + 50 * push > 1500;
        }

        int minutesIn(Ship ship, int cell, boolean north) {
            return Math.max(1, 6 + ship.length / 100 - currentAlong(cell, north));
        }

        int minutesToGorge(Ship ship, boolean north) {
            return north ? minutesOver(ship, 0, gorgeFrom - 1, true) : minutesOver(ship, gorgeTo + 1, cells - 1, false);
        }

        int minutesOfGorge(Ship ship, boolean north) {
            return minutesOver(ship, gorgeFrom, gorgeTo, north);
        }

        private int minutesOver(Ship ship, int from, int to, boolean north) {
            int all = 0;
            for (int i = Math.max(0, from); i <= to && i < cells; i++) {
                all += minutesIn(ship, i, north);
            }
            return all;
        }

        void spill(int cell, int tons) {
            for (int i = 0; i < oilAt.length; i++) {
                oilAt[i] = i == cell + 1 ? tons : 0;
            }
        }

        void drift() {
            for (int i = 0; i < cells; i++) {
                given[i] = oilAt[i + 1] * Math.abs(current[i]) / 10;
            }
            for (int i = 0; i < cells; i++) {
                oilAt[i + 1] -= given[i];
                oilAt[current[i] < 0 ? i : i + 2] += given[i];
            }
        }

        int oilIn(int place) {
            int index = place == NORTH_SEA ? cells + 1 : place + 1;
            return index >= 0 && index < oilAt.length ? oilAt[index] : NONE;
        }
    }

    private static final class Ship {
        int land;
        int tons;
        int length;
        int draft;
        int guns;
        int decks;
        int load;
        boolean war;
        boolean shore;

        boolean isForeignWarship() {
            return war && !shore;
        }
    }

    /** A CONVENTION: what it tells, and its e's as codes in the order in which they are worked out. */
    private static final class Convention {
        // 100 units, the signs between them, and as many nots as 1,200 bytes hold.
        private static final int MOST_CODES = 512;

        // A type of TOKENS, and 256 times a number that goes with it.
        final int[] codes = new int[MOST_CODES];
        int codeCount;
        final long[] kindNames = new long[MOST_KINDS];
        // Where the codes of a KIND begin, and end.
        final int[] kindFrom = new int[MOST_KINDS];
        final int[] kindTo = new int[MOST_KINDS];
        int kinds;
        // Bits: what its kind lines ask a SHIP for.
        int kindAsks;
        final int[] mayCase = new int[MOST_MAYS];
        final int[] mayFrom = new int[MOST_MAYS];
        final int[] mayTo = new int[MOST_MAYS];
        int mays;
        int mostTons;
        int mostTonsEach;
        int stay;
        int leastNotice;
        int duesFrom;
        int duesTo;
        int lines;

        Convention() {
            clear();
        }

        void clear() {
            codeCount = 0;
            kinds = 0;
            kindAsks = 0;
            mays = 0;
            mostTons = 9999;
            mostTonsEach = 9999;
            stay = 99;
            leastNotice = 0;
            duesFrom = 0;
            duesTo = 0;
            lines = 0;
        }

        void emit(int type, int number) {
            if (codeCount < MOST_CODES) {
                codes[codeCount] = type + number * 256;
                codeCount++;
            }
        }
    }

    /** Reads a text as a CONVENTION. */
    private static final class ConventionReader {
        // How tightly signs bind, the loosest first.
        private static final int OR_LEVEL = 0;
        private static final int AND_LEVEL = 1;
        private static final int ONE_LEVEL = 2;
        private static final int SUM_LEVEL = 3;
        private static final int TERM_LEVEL = 4;
        private static final int UNIT_LEVEL = 5;

        private Tokens tokens;
        private Strait strait;
        private Convention made;
        private int units;
        private boolean inKindLine;
        // Bits: which of the lines that come once have come.
        private int onceTold;

        void read(Tokens text, Strait lands, Convention into) {
            tokens = text;
            strait = lands;
            made = into;
            made.clear();
            units = 0;
            onceTold = 0;
            for (int i = 0; i < MOST_BYTES && tokens.type() != END; i++) {
                inKindLine = tokens.type() == KIND;
                switch (tokens.type()) {
                    case KIND:
                        readKind();
                        break;
                    case MAY:
                        readMay();
                        break;
                    case SUM:
                    case EACH:
                    case STAY:
                    case NOTICE:
                        readLimit(tokens.type());
                        break;
                    case DUES:
                        readDues();
                        break;
                    default:
                        tokens.refuse(MISPLACED);
                }
                made.lines++;
            }
        }

        private void readKind() {
            int number = made.kinds;
            if (number >= MOST_KINDS) {
                tokens.refuse(MISPLACED);
                return;
            }
            tokens.step();
            made.kindNames[number] = tokens.demandNewName(made.kindNames, number);
            tokens.demand(IS);
            made.kindFrom[number] = made.codeCount;
            readExpression(OR_LEVEL, 0);
            made.kindTo[number] = made.codeCount;
            tokens.demand(';');
            made.kinds++;
        }

        private void readMay() {
            int number = made.mays;
            if (number >= MOST_MAYS) {
                tokens.refuse(MISPLACED);
                return;
            }
            tokens.step();
            made.mayCase[number] = readCase();
            tokens.demand(IF);
            made.mayFrom[number] = made.codeCount;
            readExpression(OR_LEVEL, 0);
            made.mayTo[number] = made.codeCount;
            tokens.demand(';');
            made.mays++;
        }

        private int readCase() {
            if (tokens.accept(PEACE)) {
                return 0;
            }
            if (tokens.accept(THREAT)) {
                return 1;
            }
            tokens.demand(WAR);
            return 2;
        }

        private void readLimit(int word) {
            if (!isFirst(word)) {
                tokens.refuse(MISPLACED);
                return;
            }
            tokens.step();
            int number = tokens.demandNumber(0, word == STAY || word == NOTICE ? 99 : 9999);
            tokens.demand(';');
            switch (word) {
                case SUM:
                    made.mostTons = number;
                    break;
                case EACH:
                    made.mostTonsEach = number;
                    break;
                case STAY:
                    made.stay = number;
                    break;
                default:
                    made.leastNotice = number;
            }
        }

        private void readDues() {
            if (!isFirst(DUES)) {
                tokens.refuse(MISPLACED);
                return;
            }
            tokens.step();
            made.duesFrom = made.codeCount;
            readExpression(OR_LEVEL, 0);
            made.duesTo = made.codeCount;
            tokens.demand(';');
        }

        private boolean isFirst(int word) {
            int bit = 1 << (word - FIRST_WORD);
            boolean first = (onceTold & bit) == 0;
            onceTold |= bit;
            return first;
        }

        /** Around: how many units ( e ) and nots stand open around it. */
        private void readExpression(int level, int around) {
            if (level >= UNIT_LEVEL) {
                readUnit(around);
                return;
            }
            if (level == ONE_LEVEL && tokens.type() == NOT) {
                readNot(around);
                return;
            }
            readExpression(level + 1, around);
            for (int i = 0; i < MOST_BYTES && levelOf(tokens.type()) == level; i++) {
                int sign = tokens.type();
                tokens.step();
                readExpression(level + 1, around);
                made.emit(sign, 0);
                if (level == ONE_LEVEL) {
                    return;
                }
            }
        }

        private static int levelOf(int type) {
            switch (type) {
                case OR:
                    return OR_LEVEL;
                case AND:
                    return AND_LEVEL;
                case '<':
                case '>':
                case '=':
                    return ONE_LEVEL;
                case '+':
                case '-':
                    return SUM_LEVEL;
                case '*':
                    return TERM_LEVEL;
                default:
                    return NONE;
            }
        }

        private void readNot(int around) {
            if (around > MOST_AROUND) {
                tokens.refuse(MISPLACED);
                return;
            }
            tokens.step();
            readExpression(ONE_LEVEL, around + 1);
            made.emit(NOT, 0);
        }

        private void readUnit(int around) {
            int type = tokens.type();
            boolean tooDeep = type == '(' && around > MOST_AROUND;
            if (!beginsUnit(type) || tooDeep || units >= MOST_UNITS) {
                tokens.refuse(MISPLACED);
                return;
            }
            if (inKindLine && (type == NORTH || type == NOTICE || type == DAY)) {
                tokens.refuse(NOT_ASKED_FOR);
                return;
            }
            units++;
            if (type == '(') {
                tokens.step();
                readExpression(OR_LEVEL, around + 1);
                tokens.demand(')');
            } else {
                readLeaf(type);
            }
        }

        private static boolean beginsUnit(int type) {
            return type == NUMBER || type == '(' || type >= TONS && type <= LAND;
        }

        private void readLeaf(int type) {
            int number = (int) tokens.value();
            tokens.step();
            if (type == KIND) {
                number = tokens.demandKnownName(made.kindNames, made.kinds);
            } else if (type == LAND) {
                number = tokens.demandKnownName(strait.landNames, strait.lands);
            } else if (type != NUMBER) {
                number = 0;
            }
            made.emit(type, number);
            if (inKindLine && type >= TONS && type < TONS + GIVEN_COUNT) {
                made.kindAsks |= 1 << (type - TONS);
            }
        }
    }

    /** Works out the e's of CONVENTIONS for what a SHIP and a PASSAGE give. */
    private static final class Evaluator {
        private static final int MOST_OPEN = 64;

        private final int[] open = new int[MOST_OPEN];
        private final int[] given = new int[GIVEN_COUNT];
        private int land;
        private int kindFound;

        void give(int word, int number) {
            if (word >= TONS && word < TONS + GIVEN_COUNT) {
                given[word - TONS] = number;
            }
        }

        void giveLand(int number, boolean shore) {
            land = number;
            give(SHORE, shore ? 1 : 0);
        }

        void giveShip(Ship ship) {
            giveLand(ship.land, ship.shore);
            give(TONS, ship.tons);
            give(LENGTH, ship.length);
            give(DRAFT, ship.draft);
            give(GUNS, ship.guns);
            give(DECKS, ship.decks);
            give(LOAD, ship.load);
            give(WAR, ship.war ? 1 : 0);
        }

        void givePassage(boolean north, int notice, int day) {
            give(NORTH, north ? 1 : 0);
            give(NOTICE, notice);
            give(DAY, day);
        }

        /** The KIND of the SHIP, which kind NAME in the lines that are no kind lines then means. */
        int kindBy(Convention convention) {
            // A kind line names only KINDS ahead of it, and is come to only if none of these holds.
            kindFound = NONE;
            for (int i = 0; i < convention.kinds; i++) {
                if (valueOf(convention, convention.kindFrom[i], convention.kindTo[i]) != 0) {
                    kindFound = i;
                    return i;
                }
            }
            return NONE;
        }

        int firstMay(Convention convention, int peace) {
            for (int i = 0; i < convention.mays; i++) {
                if (convention.mayCase[i] == peace && valueOf(convention, convention.mayFrom[i], convention.mayTo[i]) != 0) {
                    return i;
                }
            }
            return NONE;
        }

        int duesBy(Convention convention) {
            return Math.max(0, valueOf(convention, convention.duesFrom, convention.duesTo));
        }

        private int valueOf(Convention convention, int from, int to) {
            int top = 0;
            for (int i = from; i < to && i < convention.codeCount; i++) {
                int type = convention.codes[i] & 255;
                if (type == NUMBER || type >= TONS && type <= LAND) {
                    if (top < MOST_OPEN) {
                        open[top] = valueOfLeaf(type, convention.codes[i] >> 8);
                        top++;
                    }
                } else if (type == NOT) {
                    if (top > 0) {
                        open[top - 1] = open[top - 1] == 0 ? 1 : 0;
                    }
                } else if (top > 1) {
                    top--;
                    open[top - 1] = join(type, open[top - 1], open[top]);
                }
            }
            return top > 0 ? open[0] : 0;
        }

        private int valueOfLeaf(int type, int number) {
            switch (type) {
                case NUMBER:
                    return number;
                case KIND:
                    return kindFound == number ? 1 : 0;
                case LAND:
                    return land == number ? 1 : 0;
                default:
                    return given[type - TONS];
            }
        }

        private static int join(int sign, int left, int right) {
            switch (sign) {
                case OR:
                    return left != 0 || right != 0 ? 1 : 0;
                case AND:
                    return left != 0 && right != 0 ? 1 : 0;
                case '<':
                    return left < right ? 1 : 0;
                case '>':
                    return left > right ? 1 : 0;
                case '=':
                    return left == right ? 1 : 0;
                case '+':
                    return left + right;
                case '-':
                    return left - right;
                default:
                    return left * right;
            }
        }
    }

    /** What is TOLD of days at a TIME and UNTOLD at another: FACTS, or SIGHTINGS. */
    private static final class Diary {
        final int[] day;
        // Of a PASSAGE its SHIP, of a CASE NONE; of a SIGHTING the KIND.
        final int[] subject;
        final boolean[] north;
        // Of a PASSAGE its notice, of a CASE which it is; of a SIGHTING the minute.
        final int[] number;
        private final int[] told;
        private final int[] untold;
        int count;

        Diary(int most) {
            int size = Math.max(0, most);
            day = new int[size];
            subject = new int[size];
            north = new boolean[size];
            number = new int[size];
            told = new int[size];
            untold = new int[size];
        }

        void clear() {
            count = 0;
        }

        boolean has(int entry) {
            return entry >= 0 && entry < count;
        }

        int write(int onDay, int who, boolean goesNorth, int how, int now) {
            if (count >= day.length) {
                return NONE;
            }
            day[count] = onDay;
            subject[count] = who;
            north[count] = goesNorth;
            number[count] = how;
            told[count] = now;
            untold[count] = NONE;
            count++;
            return count - 1;
        }

        boolean strike(int entry, int now) {
            if (!has(entry) || untold[entry] != NONE) {
                return false;
            }
            untold[entry] = now;
            return true;
        }

        boolean counts(int entry, int k) {
            return told[entry] <= k && (untold[entry] == NONE || untold[entry] > k);
        }

        int countOn(int someDay) {
            int many = 0;
            for (int i = 0; i < count; i++) {
                many += day[i] == someDay ? 1 : 0;
            }
            return many;
        }
    }

    /** All PASSAGES as judged by one SHELF, as known at one TIME. */
    private static final class Ledger {
        // Above every FACT's number, so that a key of sorted holds it in its lowest digits.
        private static final int KEY_STEP = 256;

        private Diary facts;
        private Ship[] ships;
        private Strait strait;
        private Convention convention;
        private Evaluator evaluator;
        private int shelf;
        private int k;
        private int changes = NONE;
        // The FACTS that count, by days, CASES ahead of PASSAGES, then by numbers.
        private final int[] sorted = new int[MOST_FACTS];
        private int sortedCount;
        final int[] reasons = new int[MOST_FACTS];
        final int[] whys = new int[MOST_FACTS];
        final int[] duesOwed = new int[MOST_FACTS];
        final boolean[] inNorth = new boolean[MOST_SHIPS];
        // The day of a SHIP's last way north.
        final int[] since = new int[MOST_SHIPS];

        /** True if it holds the answers of another page, so that all must be judged anew. */
        boolean turnTo(int wantedShelf, int wantedK, int wantedChanges) {
            boolean same = shelf == wantedShelf && k == wantedK && changes == wantedChanges;
            shelf = wantedShelf;
            k = wantedK;
            changes = wantedChanges;
            return !same;
        }

        void judgeAll(Diary diary, Ship[] fleet, Strait cells, Convention text, Evaluator scales) {
            facts = diary;
            ships = fleet;
            strait = cells;
            convention = text;
            evaluator = scales;
            sortFacts();
            forgetAnswers();
            putAllSouth();
            int peace = 0;
            for (int i = 0; i < sortedCount; i++) {
                int fact = sorted[i] % KEY_STEP;
                if (facts.subject[fact] == NONE) {
                    peace = facts.number[fact];
                } else {
                    reasons[fact] = judge(fact, peace);
                }
                if (reasons[fact] == 0) {
                    duesOwed[fact] = evaluator.duesBy(convention);
                    move(fact);
                }
            }
        }

        private void sortFacts() {
            sortedCount = 0;
            for (int i = 0; i < facts.count && i < MOST_FACTS; i++) {
                if (facts.counts(i, k)) {
                    int isPassage = facts.subject[i] == NONE ? 0 : 1;
                    insert((facts.day[i] * 2 + isPassage) * KEY_STEP + i);
                }
            }
        }

        private void insert(int key) {
            if (sortedCount < MOST_FACTS) {
                int at = sortedCount;
                while (at > 0 && sorted[at - 1] > key) {
                    sorted[at] = sorted[at - 1];
                    at--;
                }
                sorted[at] = key;
                sortedCount++;
            }
        }

        private void forgetAnswers() {
            for (int i = 0; i < MOST_FACTS; i++) {
                reasons[i] = NONE;
                whys[i] = NONE;
                duesOwed[i] = NONE;
            }
        }

        private void putAllSouth() {
            for (int i = 0; i < MOST_SHIPS; i++) {
                inNorth[i] = false;
                since[i] = 0;
            }
        }

        /** The REASON; the evaluator has the PASSAGE then, if it got as far as the may lines. */
        private int judge(int fact, int peace) {
            int who = facts.subject[fact];
            boolean north = facts.north[fact];
            Ship ship = ships[who];
            if (inNorth[who] == north) {
                return 1;
            }
            if (strait.firstHit(ship, north) != NONE) {
                return 2;
            }
            if (facts.number[fact] < convention.leastNotice) {
                return 3;
            }
            evaluator.giveShip(ship);
            evaluator.givePassage(north, facts.number[fact], facts.day[fact]);
            evaluator.kindBy(convention);
            whys[fact] = evaluator.firstMay(convention, peace);
            if (whys[fact] == NONE) {
                return 4;
            }
            if (!north || !ship.isForeignWarship()) {
                return 0;
            }
            if (tonsInside(NONE) + ship.tons > convention.mostTons) {
                return 5;
            }
            return tonsInside(ship.land) + ship.tons > convention.mostTonsEach ? 6 : 0;
        }

        /** Of all LANDS for NONE. */
        private int tonsInside(int land) {
            int tons = 0;
            for (int i = 0; i < MOST_SHIPS; i++) {
                if (inNorth[i] && ships[i].isForeignWarship() && (land == NONE || ships[i].land == land)) {
                    tons += ships[i].tons;
                }
            }
            return tons;
        }

        private void move(int fact) {
            int who = facts.subject[fact];
            inNorth[who] = facts.north[fact];
            since[who] = facts.north[fact] ? facts.day[fact] : since[who];
        }

        /** Puts the SHIPS where they are behind all PASSAGES up to a day. */
        void settle(int day) {
            putAllSouth();
            for (int i = 0; i < sortedCount; i++) {
                int fact = sorted[i] % KEY_STEP;
                if (reasons[fact] == 0 && facts.day[fact] <= day) {
                    move(fact);
                }
            }
        }
    }

    /** The PASSAGES of a day that are LET, and their ORDER through THE GORGE. */
    private static final class Plan {
        private static final int ABOVE_ANY_WAITING = 1000000;

        private int shelf;
        private int day;
        private int k;
        private int changes = NONE;
        private boolean hasGorge;
        private int gap;
        int count;
        int waiting;
        final int[] facts = new int[MOST_ON_A_DAY];
        final boolean[] north = new boolean[MOST_ON_A_DAY];
        final int[] ready = new int[MOST_ON_A_DAY];
        final int[] through = new int[MOST_ON_A_DAY];
        final int[] begin = new int[MOST_ON_A_DAY];
        final int[] place = new int[MOST_ON_A_DAY];
        // The ORDER that is being tried.
        private final int[] triedBegin = new int[MOST_ON_A_DAY];
        private final int[] triedPlace = new int[MOST_ON_A_DAY];

        /** True if it holds another PLAN, so that this one must be made. */
        boolean turnTo(int wantedShelf, int wantedDay, int wantedK, int wantedChanges) {
            boolean same = shelf == wantedShelf && day == wantedDay && k == wantedK && changes == wantedChanges;
            shelf = wantedShelf;
            day = wantedDay;
            k = wantedK;
            changes = wantedChanges;
            return !same;
        }

        void takeDay(Ledger ledger, Diary diary, Ship[] ships, Strait strait) {
            hasGorge = strait.hasGorge();
            count = 0;
            for (int i = 0; i < diary.count && count < MOST_ON_A_DAY; i++) {
                if (ledger.reasons[i] == 0 && diary.day[i] == day) {
                    Ship ship = ships[diary.subject[i]];
                    facts[count] = i;
                    north[count] = diary.north[i];
                    ready[count] = hasGorge ? strait.minutesToGorge(ship, north[count]) : 0;
                    through[count] = hasGorge ? strait.minutesOfGorge(ship, north[count]) : 0;
                    begin[count] = 0;
                    place[count] = count;
                    count++;
                }
            }
        }

        void arrange(int wantedGap) {
            gap = wantedGap;
            waiting = hasGorge ? ABOVE_ANY_WAITING : 0;
            if (hasGorge) {
                tryNext(0, 0, 0);
            }
        }

        /** Taken: bits of those that have a place in the ORDER already. */
        private void tryNext(int at, int taken, int waited) {
            if (waited + leastToCome(taken) >= waiting) {
                return;
            }
            if (at >= count) {
                keepTried(waited);
                return;
            }
            for (int p = 0; p < count; p++) {
                if ((taken >> p & 1) == 0 && !hasTwinAhead(p, taken)) {
                    triedBegin[p] = earliest(p, taken);
                    triedPlace[p] = at;
                    tryNext(at + 1, taken | 1 << p, waited + triedBegin[p] - ready[p]);
                }
            }
        }

        private void keepTried(int waited) {
            waiting = waited;
            for (int p = 0; p < count; p++) {
                begin[p] = triedBegin[p];
                place[p] = triedPlace[p];
            }
        }

        /** None of those that are left can begin sooner than behind all that are taken. */
        private int leastToCome(int taken) {
            int least = 0;
            for (int p = 0; p < count; p++) {
                if ((taken >> p & 1) == 0) {
                    least += earliest(p, taken) - ready[p];
                }
            }
            return least;
        }

        private int earliest(int p, int taken) {
            int minute = ready[p];
            for (int q = 0; q < count; q++) {
                if ((taken >> q & 1) != 0) {
                    int ends = triedBegin[q] + through[q];
                    boolean sameWay = north[q] == north[p];
                    minute = Math.max(minute, sameWay ? Math.max(triedBegin[q] + gap, ends - through[p]) : ends);
                }
            }
            return minute;
        }

        /** Of two that are alike the first by number goes first: the other ORDER waits as long and comes later. */
        private boolean hasTwinAhead(int p, int taken) {
            for (int q = 0; q < p; q++) {
                boolean free = (taken >> q & 1) == 0;
                if (free && north[q] == north[p] && ready[q] == ready[p] && through[q] == through[p]) {
                    return true;
                }
            }
            return false;
        }

        int lastEnd() {
            int last = 0;
            for (int p = 0; p < count; p++) {
                last = Math.max(last, begin[p] + through[p]);
            }
            return last;
        }
    }

    /** The SIGHTINGS of a day, each with the PASSAGES that it MAY be. */
    private static final class Matching {
        private static final int SETS = 256;

        private final int[] sighted = new int[MOST_ON_A_DAY];
        private final int[] rows = new int[MOST_ON_A_DAY];
        private int count;
        // By the set of PASSAGES that are given away: in how many ways the first SIGHTINGS can have them.
        private final int[] ways = new int[SETS];

        void clear() {
            count = 0;
        }

        void addRow(int sighting, int places) {
            if (count < MOST_ON_A_DAY) {
                sighted[count] = sighting;
                rows[count] = places;
                count++;
            }
        }

        /** READINGS without one row (or NONE), whose PASSAGE is in the set that is given away at first. */
        int countWays(int without, int givenAway) {
            int left = without == NONE ? count : count - 1;
            for (int set = 0; set < SETS; set++) {
                ways[set] = set == givenAway ? 1 : 0;
            }
            int all = 0;
            for (int set = givenAway; set < SETS; set++) {
                int done = Integer.bitCount(set) - Integer.bitCount(givenAway);
                if (ways[set] != 0 && done == left) {
                    all += ways[set];
                } else if (ways[set] != 0 && done < left) {
                    spread(set, without == NONE || done < without ? done : done + 1);
                }
            }
            return all;
        }

        private void spread(int set, int row) {
            int free = row < count ? rows[row] & ~set : 0;
            for (int p = 0; p < MOST_ON_A_DAY; p++) {
                if ((free >> p & 1) != 0) {
                    ways[set | 1 << p] += ways[set];
                }
            }
        }

        int placesOf(int sighting) {
            int places = 0;
            for (int row = 0; row < count; row++) {
                for (int p = 0; p < MOST_ON_A_DAY && sighted[row] == sighting; p++) {
                    if ((rows[row] >> p & 1) != 0 && countWays(row, 1 << p) > 0) {
                        places |= 1 << p;
                    }
                }
            }
            return places;
        }
    }

    /** The least SHIP on which two CONVENTIONS PART. */
    private static final class Parting {
        boolean found;
        // Tons, guns, decks, war, and the KINDS by both.
        final int[] answers = new int[6];
        private int first;
        private int second;
        private int changes = NONE;
        private Evaluator evaluator;
        private Convention one;
        private Convention other;

        /** True if it holds the answers for two others, so that these must be searched. */
        boolean turnTo(int a, int b, int wantedChanges) {
            boolean same = first == a && second == b && changes == wantedChanges;
            first = a;
            second = b;
            changes = wantedChanges;
            return !same;
        }

        void search(Convention a, Convention b, Evaluator scales, Strait strait) {
            one = a;
            other = b;
            evaluator = scales;
            boolean hasLand = strait.lands > 0;
            evaluator.giveLand(hasLand ? 0 : NONE, hasLand && strait.shore[0]);
            evaluator.give(LENGTH, 100);
            evaluator.give(DRAFT, 5);
            evaluator.give(LOAD, 0);
            found = false;
            int most = mostWorthTrying(TONS, 99);
            for (int tons = 0; tons <= most && !found; tons++) {
                evaluator.give(TONS, tons);
                answers[0] = tons;
                searchGuns();
            }
        }

        /** What no kind line asks for can't make them part: 0 is the least of all that are alike. */
        private int mostWorthTrying(int word, int most) {
            return ((one.kindAsks | other.kindAsks) >> (word - TONS) & 1) != 0 ? most : 0;
        }

        private void searchGuns() {
            int most = mostWorthTrying(GUNS, 20);
            for (int guns = 0; guns <= most && !found; guns++) {
                evaluator.give(GUNS, guns);
                answers[1] = guns;
                searchDecks();
            }
        }

        private void searchDecks() {
            int most = mostWorthTrying(DECKS, 5);
            for (int decks = 0; decks <= most && !found; decks++) {
                evaluator.give(DECKS, decks);
                answers[2] = decks;
                searchWar();
            }
        }

        private void searchWar() {
            int most = mostWorthTrying(WAR, 1);
            for (int war = 0; war <= most && !found; war++) {
                evaluator.give(WAR, war);
                answers[3] = war;
                answers[4] = evaluator.kindBy(one);
                answers[5] = evaluator.kindBy(other);
                found = answers[4] != answers[5];
            }
        }
    }
}
