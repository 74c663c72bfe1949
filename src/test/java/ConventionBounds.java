import java.util.Arrays;

/** Each sentence of ==== 2 and of promises 5, 6, 11 that names a boundary: just inside it, at it, just beyond it. */
public final class ConventionBounds extends Checks {
    private static final String SIX_KINDS = "kind a is 0;kind b is 0;kind c is 0;kind d is 0;kind e is 0;kind f is 1;";
    // 2,147,483,647
    private static final String GREATEST = "9999*9999*21+9999*4790+8416";

    public static void main(String[] args) {
        shelves();
        noSuchShelf();
        bytesOfAConvention();
        lines();
        theEnd();
        whatCantStandThere();
        whatCantBeAUnit();
        kinds();
        mays();
        othersOnceEach();
        hundredUnits();
        unitsOfAllLines();
        parenthesesWithinOthers();
        notsWithinOthers();
        bothWithinOthers();
        kindsToldAhead();
        landsAsTheyAreNow();
        notAskedForInKindLines();
        namesToldAlready();
        numbersThatCantBe();
        firstByPlace();
        leastAtOnePlace();
        grammarOfOnes();
        intsWrap();
        onesAndZeros();
        wordsOfAPassage();
        firstKindWhoseEIsNotZero();
        kindNameInLines();
        notTold();
        conventionWithAFault();
        textsBeforeAreGone();
        faults();
        kindAnswers();
        finish();
    }

    /** DUES of a PASSAGE by an e: 0 if it is below 0. */
    private static int value(String e) {
        StraitHouse x = house(STRAIT, "kind big is tons > 40; kind small is 1; may peace if 1; dues " + e + ";");
        x.ship(1, 50, 201, 7, 5, 3, 9, true);
        x.ask(0, 12, true, 34);
        return x.dues(0, 0, 0);
    }

    private static void holds(String e, int want) {
        due("value of " + e, value(e), want);
    }

    // ---- promise 5 ----

    private static void shelves() {
        says("A CONVENTION is a text on a SHELF 0 .. 3 (empty at first)");
        StraitHouse x = house(STRAIT);
        for (int shelf = 0; shelf < 4; shelf++) {
            due("empty at first", x.about(10 + shelf), 0);
        }
        for (int shelf = 0; shelf < 4; shelf++) {
            due("lines", convention(x, shelf, times("may war if 1;", shelf + 1)), shelf + 1);
            due("the tape is empty then", x.about(6), 0);
        }
        for (int shelf = 0; shelf < 4; shelf++) {
            due("each has its own", x.about(10 + shelf), shelf + 1);
        }
        due("an empty one", x.convention(2), 0);
        due("it is empty", x.about(12), 0);
        due("the others stay", x.about(11) + x.about(13), 6);
    }

    private static void noSuchShelf() {
        says("-2, and the TAPE stays, if there is no such SHELF");
        for (int shelf : new int[] {-1, 4, -2, 5, 10, MIN, MAX}) {
            refused("convention(" + shelf + ")", -2, x -> x.convention(shelf));
        }
        StraitHouse x = house(STRAIT);
        put(x, "sum 1;?");
        due("no shelf for what has a fault, either", x.convention(4), -2);
        due("no fault", x.fault(0), 0);
        due("the tape stays", x.about(6), 7);
        due("cut", x.end(6), 6);
        due("the shelf 3", x.convention(3), 1);
    }

    // ---- ==== 2 ----

    private static void bytesOfAConvention() {
        says("A CONVENTION is a text of at most 1,200 bytes");
        for (int bytes = 1199; bytes <= 1200; bytes++) {
            textStands(padded("sum 1;", bytes), 1);
            textFault(padded("sum 1", bytes), 2, bytes);
            textFault(padded("dues ?", bytes), 1, bytes - 1);
        }
        textFault(times("(", 1200), 2, 0);
        textFault("dues " + times("(", 1195), 2, 5 + 7);
        textFault("dues " + times("not ", 298), 2, 5 + 28);
        textStands("", 0);
        textStands(times("\n", 1200), 0);
    }

    private static void lines() {
        says("convention = {line}: how many lines");
        textStands("kind a is 1;", 1);
        textStands("may peace if 1;", 1);
        textStands("may threat if 1;", 1);
        textStands("may war if 1;", 1);
        textStands("sum 1;", 1);
        textStands("each 1;", 1);
        textStands("stay 1;", 1);
        textStands("notice 1;", 1);
        textStands("dues 1;", 1);
        textStands("dues 1;notice 1;stay 1;each 1;sum 1;" + times("may war if 1;", 8) + SIX_KINDS, 19);
    }

    private static void theEnd() {
        says("the end: the text's length");
        for (String line : new String[] {"kind a is tons > 4 + 5 * ( 1 )", "may peace if not war and shore or 1", "sum 1", "each 1", "stay 1", "notice 1",
                "dues land ana - 1"}) {
            String[] words = line.split(" ");
            for (int tokens = 1; tokens <= words.length; tokens++) {
                String text = String.join(" ", Arrays.copyOf(words, tokens));
                textFault(text, 2, text.length());
                textFault("stay 1;".repeat(line.startsWith("stay") ? 0 : 1) + text + "\n ", 2, text.length() + 2 + (line.startsWith("stay") ? 0 : 7));
            }
            textStands(line + ";", 1);
        }
    }

    private static void whatCantStandThere() {
        says("2 one that can't stand there");
        for (String word : RESERVED) {
            boolean begins = Arrays.asList("kind", "may", "sum", "each", "stay", "notice", "dues").contains(word);
            textFault(word, 2, begins ? word.length() : 0);
            textFault("may " + word, 2, word.equals("peace") || word.equals("threat") || word.equals("war") ? 4 + word.length() : 4);
            textFault("kind a " + word, 2, word.equals("is") ? 9 : 7);
            textFault("may war " + word, 2, word.equals("if") ? 10 : 8);
            textFault("sum " + word, 2, 4);
            textFault("sum 5 " + word, 2, 6);
            textFault("dues 5 " + word, 2, word.equals("and") || word.equals("or") ? 7 + word.length() : 7);
        }
        for (String sign : ";()<>=+-*".split("")) {
            textFault(sign, 2, 0);
            textFault("may " + sign, 2, 4);
            textFault("kind " + sign, 2, 5);
            textFault("notice " + sign, 2, 7);
            textFault("dues " + sign, 2, sign.equals("(") ? 6 : 5);
            textFault("dues kind " + sign, 2, 10);
            textFault("dues land " + sign, 2, 10);
        }
        textFault("ana", 2, 0);
        textFault("5", 2, 0);
        textFault("sum 1;;", 2, 6);
        textFault("dues (1;", 2, 7);
        textFault("dues 1);", 2, 6);
        textFault("dues ();", 2, 6);
        textFault("dues (1 2);", 2, 8);
        textFault("kind a b is 1;", 2, 7);
        textFault("may peace threat if 1;", 2, 10);
        textFault("stay 1 2;", 2, 7);
    }

    private static void whatCantBeAUnit() {
        says("unit = N | tons | length | draft | guns | decks | load | war | shore | north | notice | day | kind NAME | land NAME | ( e )");
        String units = " tons length draft guns decks load war shore north notice day ";
        for (String word : RESERVED) {
            if (units.contains(" " + word + " ")) {
                textStands("dues " + word + ";", 1);
                textStands("dues 1+" + word + "*2;", 1);
            } else if (word.equals("kind") || word.equals("land") || word.equals("not")) {
                textFault("dues " + word + ";", 2, 5 + word.length());
            } else {
                textFault("dues " + word + ";", 2, 5);
                textFault("dues 1+" + word + ";", 2, 7);
            }
        }
        textStands("dues 0;", 1);
        textStands("dues 9999;", 1);
        textStands("dues land ana;", 1);
        textFault("dues ana;", 2, 5);
    }

    private static void kinds() {
        says("At most 6 KINDS (2: a 7th KIND: at its first word)");
        textStands(SIX_KINDS.substring(0, 60), 5);
        textStands(SIX_KINDS, 6);
        textFault(SIX_KINDS + "kind g is 1;", 2, 72);
        textFault(SIX_KINDS + "kind a is 1;", 2, 72);
        textFault(SIX_KINDS + "kind", 2, 72);
        textFault(SIX_KINDS + "kind ?", 2, 72);
        textFault("kind a is 0;kind b is 0;sum 1;kind c is 0;kind d is 0;stay 1;kind e is 0;kind f is 1;dues 1;kind g is 1;", 2, 92);
        StraitHouse x = house(STRAIT, SIX_KINDS);
        x.ship(0, 1, 10, 1, 0, 0, 0, false);
        due("the sixth", x.kind(0, 0), 5);
        due("another text has six of its own", convention(x, 0, SIX_KINDS), 6);
        due("another shelf, too", convention(x, 1, SIX_KINDS), 6);
    }

    private static void mays() {
        says("8 may lines (2: a 9th may: at its first word)");
        textStands(times("may war if 1;", 7), 7);
        textStands(times("may war if 1;", 8), 8);
        textFault(times("may war if 1;", 9), 2, 104);
        textFault(times("may war if 1;", 8) + "may", 2, 104);
        textFault(times("may war if 1;", 8) + "may ?", 2, 104);
        textFault("may war if 1;may peace if 1;may threat if 1;may war if 1;sum 1;may peace if 1;may threat if 1;may war if 1;may peace if 1;may peace if 1;",
                2, 13 + 15 + 16 + 13 + 6 + 15 + 16 + 13 + 15);
        StraitHouse x = house(STRAIT, times("may peace if 0;", 7) + "may peace if 1;");
        x.ship(0, 1, 10, 1, 0, 0, 0, false);
        x.ask(0, 0, true, 0);
        due("the eighth lets it", x.why(0, 0, 0), 7);
    }

    private static void othersOnceEach() {
        says("the others once each (2: another a second time: at its first word)");
        for (String word : new String[] {"sum", "each", "stay", "notice", "dues"}) {
            String line = word + " 5;";
            textStands(line, 1);
            textFault(line + line, 2, line.length());
            textFault(line + word, 2, line.length());
            textFault(line + word + " ?", 2, line.length());
            textFault(line + word + " 100;", 2, line.length());
            textFault(line + "may war if 1;" + line, 2, line.length() + 13);
            StraitHouse x = house(STRAIT, line);
            due("once in another text", convention(x, 0, line), 1);
            due("once on another shelf", convention(x, 1, line), 1);
            due("a text with a fault tells none", convention(x, 2, line + line) + convention(x, 2, line), 0);
        }
    }

    private static void hundredUnits() {
        says("100 units in all (kind NAME, land NAME are one; 2: a 101st unit: at its first TOKEN)");
        for (String[] sample : new String[][] {{"1", ""}, {"tons", ""}, {"land ana", ""}, {"kind a", "kind a is 1;"}, {"day", ""}}) {
            String unit = sample[0];
            int ahead = sample[1].isEmpty() ? 0 : 1;
            String head = sample[1] + "dues " + unit;
            textStands(head + times("+" + unit, 98 - ahead) + ";", 1 + ahead);
            textStands(head + times("+" + unit, 99 - ahead) + ";", 1 + ahead);
            textFault(head + times("+" + unit, 100 - ahead) + ";", 2, head.length() + (99 - ahead) * (unit.length() + 1) + 1);
        }
        // ( e ) is a unit, too, and so is what is in it.
        textStands("dues (1)" + times("+(1)", 49) + ";", 1);
        textFault("dues (1)" + times("+(1)", 50) + ";", 2, 5 + 50 * 4);
        textFault("dues 1+(1)" + times("+(1)", 49) + ";", 2, 5 + 2 + 49 * 4 + 1);
        textFault("dues 1" + times("+1", 99) + "+(1);", 2, 5 + 200);
        textFault("dues 1" + times("+1", 99) + "+kind ana;", 2, 5 + 200);
        textFault("dues 1" + times("+1", 99) + "+land;", 2, 5 + 200);
        // nots, and what no unit is, are not counted.
        textStands("sum 5;each 5;stay 5;notice 5;dues not 1" + times(" and not 1", 99) + ";", 5);
    }

    private static void unitsOfAllLines() {
        says("100 units in all");
        String kinds = "kind a is 1;kind b is 1;kind c is 1;";
        String mays = times("may war if 1;", 7);
        textStands(kinds + mays + "dues 1" + times("+1", 89) + ";", 11);
        textFault(kinds + mays + "dues 1" + times("+1", 90) + ";", 2, 36 + 91 + 5 + 180);
        textFault("dues 1" + times("+1", 99) + ";may war if 1;", 2, 205 + 11);
        textFault("dues 1" + times("+1", 99) + ";kind a is 1;", 2, 205 + 10);
        textStands("dues 1" + times("+1", 99) + ";sum 5;each 5;stay 5;notice 5;", 5);
        StraitHouse x = house(STRAIT, "dues 1" + times("+1", 99) + ";");
        due("of each text by itself", convention(x, 0, "dues 1" + times("+1", 99) + ";"), 1);
        due("of each text by itself", convention(x, 1, "dues 1" + times("+1", 99) + ";"), 1);
        holds("2" + times("+2", 95), 192);
    }

    private static void parenthesesWithinOthers() {
        says("a unit ( e ) within 6 others at most (2: what is within 7 others: at its first TOKEN)");
        for (String head : new String[] {"dues ", "may war if ", "kind a is "}) {
            for (int many = 1; many <= 7; many++) {
                textStands(head + times("(", many) + "1" + times(")", many) + ";", 1);
            }
            textFault(head + times("(", 8) + "1" + times(")", 8) + ";", 2, head.length() + 7);
            textFault(head + times("(", 9) + "1" + times(")", 9) + ";", 2, head.length() + 7);
            textFault(head + times("(", 7) + "1+(1)" + times(")", 7) + ";", 2, head.length() + 9);
            textFault(head + times("(", 7) + "1 or 2<3*(1)" + times(")", 7) + ";", 2, head.length() + 16);
        }
        // Those that are closed are around no more.
        textStands("dues " + times("(", 7) + "1" + times(")", 7) + times("+" + times("(", 7) + "1" + times(")", 7), 10) + ";", 1);
        textStands("dues (((((((1)+(1))+(1))+(1))+(1))+(1))+(1));", 1);
        textFault("dues (((((((1)+(1))+(1))+((((((((1))))))))));", 2, 28);
        holds("(((((((7)))))))", 7);
        holds("(((((((1)+1)*2)+1)*2)+1)*2)+1", 23);
    }

    private static void notsWithinOthers() {
        says("a one behind not, within 6 others at most (2: what is within 7 others: at the not)");
        for (int many = 1; many <= 7; many++) {
            textStands("dues " + times("not ", many) + "1;", 1);
            holds(times("not ", many) + "5", many % 2 == 0 ? 1 : 0);
            holds(times("not ", many) + "0", many % 2);
        }
        textFault("dues " + times("not ", 8) + "1;", 2, 5 + 28);
        textFault("dues " + times("not ", 9) + "1;", 2, 5 + 28);
        textFault("may war if " + times("not ", 8) + "1;", 2, 11 + 28);
        textFault("kind a is " + times("not ", 8) + "1;", 2, 10 + 28);
        textFault("dues " + times("not ", 7) + "(1);", 2, 5 + 28);
        textStands("dues " + times("not ", 7) + "1 and " + times("not ", 7) + "1 or " + times("not ", 7) + "1;", 1);
        textFault("dues " + times("not ", 7) + "1 and " + times("not ", 8) + "1;", 2, 5 + 28 + 6 + 28);
    }

    private static void bothWithinOthers() {
        says("a unit ( e ), or a one behind not, within 6 others at most");
        textStands("dues not(not(not(not 1)));", 1);
        textFault("dues not(not(not(not not 1)));", 2, 5 + 16);
        textFault("dues not(not(not(not(1))));", 2, 5 + 15);
        textStands("dues (not(not(not(1))));", 1);
        textFault("dues (not(not(not(not 1))));", 2, 5 + 13);
        textFault("dues (not(not(not((1)))));", 2, 5 + 13);
        for (int parens = 0; parens <= 7; parens++) {
            int nots = 7 - parens;
            textStands("dues " + times("(", parens) + times("not ", nots) + "1" + times(")", parens) + ";", 1);
            textFault("dues " + times("(", parens) + times("not ", nots + 1) + "1" + times(")", parens) + ";", 2, 5 + parens + 4 * nots);
            textStands("dues " + times("not ", nots) + times("(", parens) + "1" + times(")", parens) + ";", 1);
            textFault("dues " + times("not ", nots) + times("(", parens + 1) + "1" + times(")", parens + 1) + ";", 2, 5 + parens + 4 * nots);
        }
    }

    private static void kindsToldAhead() {
        says("kind: a KIND told in a line ahead (of this text); 5 a NAME of no such KIND");
        textStands("kind a is 1;kind b is kind a;may war if kind b;dues kind a;", 4);
        textFault("kind a is kind a;", 5, 15);
        textFault("kind a is kind b;kind b is 1;", 5, 15);
        textFault("may war if kind a;kind a is 1;", 5, 16);
        textFault("dues kind a;kind a is 1;", 5, 10);
        textFault("dues kind ana;", 5, 10);
        textFault("kind a is 1;dues kind aa;", 5, 22);
        textFault("kind ab is 1;dues kind a;", 5, 23);
        textStands(SIX_KINDS + "dues kind a + kind f;", 7);
        StraitHouse x = house(STRAIT, "kind a is 1;");
        due("those of the text before are told no more", convention(x, 0, "dues kind a;"), -1);
        due("its fault", x.fault(0), 5);
        due("those of another shelf are not told", convention(x, 1, "dues kind a;"), -1);
        due("its fault", x.fault(0), 5);
        due("a text with a fault", convention(x, 0, "kind q is 1;?"), -1);
        due("tells none", convention(x, 0, "dues kind q;"), -1);
        due("its fault", x.fault(0), 5);
        due("its place", x.fault(1), 10);
    }

    private static void landsAsTheyAreNow() {
        says("land: a LAND of THE STRAIT as it is now; 5 a NAME of no such LAND");
        textStands("dues land ana + land bor + land cid;", 1);
        textFault("dues land dan;", 5, 10);
        textFault("dues land an;", 5, 10);
        textFault("dues land anaa;", 5, 10);
        textFault("kind dan is 1;dues land dan;", 5, 24);
        textStands("kind ana is 1;dues land ana + kind ana;", 2);
        StraitHouse x = house(STRAIT);
        strait(x, "land dan;");
        due("a new one", convention(x, 0, "dues land dan;"), 1);
        due("an old one", convention(x, 0, "dues land ana;"), -1);
        due("its fault", x.fault(0), 5);
        due("its place", x.fault(1), 10);
        due("a strait with a fault", strait(x, "land ema;?"), -1);
        due("has no lands", convention(x, 0, "dues land ema;"), -1);
        due("those before stay", convention(x, 0, "dues land dan;"), 1);
        x = new StraitHouse();
        due("none at first", convention(x, 0, "dues land ana;"), -1);
        due("its fault", x.fault(0), 5);
        x = house("land a;land b;land c;land d;land e;land f;land g;land h;", "may peace if land h; dues land a + 2 * land h;");
        x.ship(7, 1, 10, 1, 0, 0, 0, false);
        x.ask(0, 0, true, 0);
        due("the eighth", x.dues(0, 0, 0), 2);
    }

    private static void notAskedForInKindLines() {
        says("In kind lines north, notice, day are not asked for (6)");
        for (String word : new String[] {"north", "notice", "day"}) {
            textFault("kind a is " + word + ";", 6, 10);
            textFault("kind a is 1 + " + word + ";", 6, 14);
            textFault("kind a is not (tons > " + word + ");", 6, 22);
            textFault("may war if 1;kind a is " + word + ";", 6, 23);
            textStands("may war if " + word + ";dues " + word + ";", 2);
            textStands("kind a is 1;may war if " + word + ";kind b is 1;dues " + word + ";", 4);
        }
        textStands("kind a is tons+length+draft+guns+decks+load+war+shore+land ana;", 1);
    }

    private static void namesToldAlready() {
        says("3: a KIND told already in it");
        textFault("kind a is 1;kind a is 1;", 3, 17);
        textFault("kind a is 1;kind b is 1;kind c is 1;kind b is 1;", 3, 41);
        textFault(SIX_KINDS.substring(0, 60) + "kind a is 1;", 3, 65);
        textFault(SIX_KINDS.substring(0, 60) + "kind e is 1;", 3, 65);
        textFault("kind abcdefgh is 1;kind abcdefgh is 1;", 3, 24);
        textStands("kind abcdefgh is 1;kind abcdefgi is 1;kind abcdefg is 1;kind a is 1;kind aa is 1;", 5);
        StraitHouse x = house(STRAIT, "kind a is 1;", "kind a is 1;");
        due("one of the text before", convention(x, 0, "kind a is 2;"), 1);
        due("a text with a fault tells none", convention(x, 0, "kind b is 2;?") + convention(x, 0, "kind b is 2;"), 0);
    }

    private static void numbersThatCantBe() {
        says("4: stay, notice above 99");
        for (String word : new String[] {"stay", "notice", "sum", "each"}) {
            int most = word.equals("stay") || word.equals("notice") ? 99 : 9999;
            for (int n : new int[] {0, 1, 98, 99, 100, 101, 9998, 9999}) {
                String text = word + " " + n + ";";
                if (n <= most) {
                    textStands(text, 1);
                } else {
                    textFault(text, 4, word.length() + 1);
                }
            }
            textFault(word + " 10000;", 1, word.length() + 1);
            textStands(word + " 0099;", 1);
        }
        textStands("dues 9999;", 1);
        textFault("dues 10000;", 1, 5);
    }

    private static void firstByPlace() {
        says("FAULTS as in 1: the first by its place");
        textFault("stay 100;?", 4, 5);
        textFault("stay 99;?", 1, 8);
        textFault("kind a is north + ?;", 6, 10);
        textFault("kind a is ? + north;", 1, 10);
        textFault("dues kind x + land y;", 5, 10);
        textFault("dues 1 + land y;", 5, 14);
        textFault("kind a is kind b + day;", 5, 15);
        textFault("kind a is day + kind b;", 6, 10);
        textFault("sum 1;sum 1;stay 100;", 2, 6);
        textFault("stay 100;sum 1;sum 1;", 4, 5);
        textFault("kind a is 1;kind a is day;", 3, 17);
        textFault("kind a is day;kind a is 1;", 6, 10);
        textFault("stay 1 stay 100", 2, 7);
    }

    private static void leastAtOnePlace() {
        says("FAULTS as in 1: at one place the least");
        String full = "may peace if 1" + times("+1", 98) + ";";
        for (String word : new String[] {"north", "notice", "day"}) {
            textFault(full + "kind a is 1;kind b is " + word + ";", 2, full.length() + 22);
            textFault(full + "kind b is " + word + ";", 6, full.length() + 10);
        }
        textFault("stay 100a;", 1, 5);
        textFault("stay 00100;", 1, 5);
        textFault("kind a is north5a;", 6, 10);
        textFault("dues kind abcdefghi;", 1, 10);
        textFault("dues kind 5a;", 1, 10);
        textFault("kind a is 1;kind a5 is 1;", 3, 17);
        textFault(SIX_KINDS + "kindkindk is 1;", 1, 72);
    }

    private static void grammarOfOnes() {
        says("one = not one | sum [(< | > | =) sum]");
        textStands("dues 1<2;", 1);
        textFault("dues 1<2<3;", 2, 8);
        textFault("dues 1<2=3;", 2, 8);
        textFault("dues 1>2>3;", 2, 8);
        textStands("dues (1<2)<3;", 1);
        textStands("dues 1<(2<3);", 1);
        textFault("dues 1<not 2;", 2, 7);
        textFault("dues 1+not 2;", 2, 7);
        textFault("dues 1*not 2;", 2, 7);
        textStands("dues 1<(not 2);", 1);
        textStands("dues not 1<2;", 1);
        textStands("dues 1 and not 2 or not 3 and 4;", 1);
        textFault("dues -1;", 2, 5);
        textFault("dues 1--1;", 2, 7);
        textFault("dues 1<>2;", 2, 7);
        holds("3>2", 1);
        holds("2>2", 0);
        holds("2<2", 0);
        holds("1<2", 1);
        holds("2=2", 1);
        holds("2=3", 0);
        holds("2*3=6 and 7-1=6", 1);
        holds("10-4-3", 3);
        holds("10-4*2", 2);
        holds("1 or 1 and 0", 1);
        holds("not 1=2", 1);
        holds("not 0+5", 0);
    }

    private static void intsWrap() {
        says("Ints, wrapping");
        holds(GREATEST, MAX);
        holds(GREATEST + "+1", 0);
        holds(GREATEST + "+1<0", 1);
        holds(GREATEST + "+1-1", MAX);
        holds("0-(" + GREATEST + ")-1<0", 1);
        holds("0-(" + GREATEST + ")-2", MAX);
        holds("0-(" + GREATEST + "+1)<0", 1);
        holds("(" + GREATEST + ")*2", 0);
        holds("(" + GREATEST + ")*2+3", 1);
        holds("(" + GREATEST + ")*(" + GREATEST + ")", 1);
        holds("(" + GREATEST + "+1)*2", 0);
        holds("(" + GREATEST + "+1)*2=0", 1);
        holds("not (" + GREATEST + "+1)*2", 1);
        holds("9999*9999*9999", 0);
        holds("0-9999*9999*9999", -(9999 * 9999 * 9999));
        holds(GREATEST + "<" + GREATEST + "+1", 0);
    }

    private static void onesAndZeros() {
        says("relations, and, or, not are 1 or 0, of what is not 0");
        holds("7 and 9", 1);
        holds("7 and 0", 0);
        holds("0 and 7", 0);
        holds("0 or 0", 0);
        holds("7 or 0", 1);
        holds("0 or 7", 1);
        holds("7 or 9", 1);
        holds("0-1 and 0-2", 1);
        holds("0-1 or 0", 1);
        holds("not 0-1", 0);
        holds("not 2", 0);
        holds("not 0", 1);
        holds("(5>3)+(5>4)+(5=5)+(3<5)", 4);
        holds("(7 and 7)+(7 or 7)+(not 0)", 3);
        holds("5", 5);
        holds("0-1<0", 1);
        holds("0>0-1", 1);
        holds("0-1", 0);
    }

    private static void wordsOfAPassage() {
        says("north | notice | day");
        holds("north", 1);
        holds("notice", 34);
        holds("day", 12);
        StraitHouse x = house(STRAIT, "may peace if 1; dues 5 + north;", "may peace if 1; dues day * 100 + notice;");
        x.ship(0, 1, 10, 1, 0, 0, 0, false);
        x.ask(0, 0, true, 0);
        x.ask(0, 999, false, 99);
        due("north", x.dues(0, 0, 0), 6);
        due("south", x.dues(0, 1, 0), 5);
        due("the least", x.dues(1, 0, 0), 0);
        due("the greatest", x.dues(1, 1, 0), 99999);
    }

    private static void firstKindWhoseEIsNotZero() {
        says("The KIND of a SHIP is the first whose e is not 0; NONE if none is");
        StraitHouse x = house(STRAIT, "kind a is tons - 5; kind b is tons - 4; kind c is 1;", "kind a is tons > 5; kind b is tons > 4;", SIX_KINDS, "");
        x.ship(0, 5, 10, 1, 0, 0, 0, false);
        x.ship(0, 4, 10, 1, 0, 0, 0, false);
        x.ship(0, 6, 10, 1, 0, 0, 0, false);
        due("0 is none", x.kind(0, 0), 1);
        due("below 0 is", x.kind(0, 1), 0);
        due("above 0 is", x.kind(0, 2), 0);
        due("the second", x.kind(1, 0), 1);
        due("none", x.kind(1, 1), -1);
        due("the first of two", x.kind(1, 2), 0);
        due("the sixth", x.kind(2, 0), 5);
        due("no lines", x.kind(3, 0), -1);
    }

    private static void kindNameInLines() {
        says("kind NAME: 1 if the KIND of the SHIP is that one, in kind lines if its e holds");
        StraitHouse x = house(STRAIT, "kind a is tons > 5; kind b is guns > 0; kind c is not kind a and not kind b; kind d is kind c;"
                + "may peace if kind a; may peace if kind b; may peace if kind c; may peace if kind d; dues 10 + kind a + 2 * kind b + 4 * kind c;");
        x.ship(0, 6, 10, 1, 1, 0, 0, false);
        x.ship(0, 5, 10, 1, 1, 0, 0, false);
        x.ship(0, 5, 10, 1, 0, 0, 0, false);
        for (int ship = 0; ship < 3; ship++) {
            x.ask(ship, 0, true, 0);
        }
        for (int ship = 0; ship < 3; ship++) {
            due("by its kind", x.why(0, ship, 0), ship);
            due("its kind alone is 1", x.dues(0, ship, 0), 10 + (1 << ship));
            due("its kind", x.kind(0, ship), ship);
        }
        x = house(STRAIT, "kind a is 0; kind b is kind a; kind c is kind a = 0;");
        x.ship(0, 6, 10, 1, 1, 0, 0, false);
        due("one whose e does not hold is 0", x.kind(0, 0), 2);
    }

    private static void notTold() {
        says("sum, each 9999, stay 99, notice 0 if not told; dues 0");
        StraitHouse x = house(STRAIT, "may peace if 1;");
        x.ship(1, 9998, 10, 1, 0, 0, 0, true);
        x.ship(1, 1, 10, 1, 0, 0, 0, true);
        x.ship(1, 1, 10, 1, 0, 0, 0, true);
        for (int ship = 0; ship < 3; ship++) {
            x.ask(ship, 0, true, 0);
        }
        due("notice 0", x.reason(0, 0, 0), 0);
        due("9999 of one land", x.reason(0, 1, 0), 0);
        due("10000", x.reason(0, 2, 0), 5);
        due("99 days", x.inside(0, 99, 2, 0), 0);
        due("100 days", x.inside(0, 100, 2, 0), 2);
        due("dues", x.dues(0, 0, 0), 0);
        due("year", x.year(0, 0, 0), 0);
        convention(x, 0, "may peace if 1; sum 9999; each 9998; stay 0; notice 1; dues 1;");
        due("told", x.reason(0, 0, 0), 3);
        convention(x, 0, "may peace if 1; sum 9999; each 9998; stay 0; notice 0; dues 1;");
        due("told: each", x.reason(0, 1, 0), 6);
        due("told: stay", x.inside(0, 1, 2, 0), 1);
        due("told: dues", x.dues(0, 0, 0), 1);
        convention(x, 0, "may peace if 1;");
        due("not told any more: notice, each", x.reason(0, 1, 0), 0);
        due("not told any more: stay", x.inside(0, 99, 2, 0), 0);
        due("not told any more: dues", x.dues(0, 0, 0), 0);
    }

    private static void conventionWithAFault() {
        says("NONE: a FAULT (it stays)");
        for (String text : new String[] {"stay 100;", "sum 1;sum 1;", "kind a is day;", "dues land x;", "?", "kind z is 1;may war if 1;stay 1", "kind a is 1;kind a is 1;"}) {
            for (int shelf = 0; shelf < 4; shelf++) {
                StraitHouse x = full();
                StraitHouse same = full();
                x.end(0);
                same.end(0);
                due("convention", convention(x, shelf, text), -1);
                due("the tape is empty then", x.about(6), 0);
                String was = look(same);
                String is = look(x);
                due("it stays", is.substring(is.indexOf("cells")), was.substring(was.indexOf("cells")));
                due("it stays", is.substring(0, is.indexOf("fault")), was.substring(0, was.indexOf("fault")));
                due("it stays", lookOn(x), lookOn(same));
            }
        }
    }

    private static void textsBeforeAreGone() {
        says("The TAPE is the CONVENTION of a SHELF");
        StraitHouse x = house(STRAIT);
        x.ship(1, 50, 10, 1, 0, 0, 0, true);
        x.ask(0, 0, true, 5);
        String rich = SIX_KINDS + times("may peace if 1;", 8) + "sum 40;each 30;stay 1;notice 5;dues 7" + times("+1", 84) + ";";
        for (int i = 0; i < 8; i++) {
            due("lines", convention(x, 0, rich), 19);
            due("its kind", x.kind(0, 0), 5);
            due("its sum", x.reason(0, 0, 0), 5);
            due("its may line", x.why(0, 0, 0), 0);
            for (int again = 0; again < 2; again++) {
                due("lines", convention(x, 0, "may war if 1;"), 1);
                due("no kind", x.kind(0, 0), -1);
                due("no may line", x.reason(0, 0, 0), 4);
            }
            due("lines", convention(x, 0, "may peace if 1;"), 1);
            due("no sum, each, notice", x.reason(0, 0, 0), 0);
            due("no dues", x.dues(0, 0, 0), 0);
            due("no stay", x.inside(0, 99, 2, 0), 0);
            due("on that shelf alone", x.about(11) + x.about(12) + x.about(13), 0);
        }
    }

    // ---- promise 6 ----

    private static void faults() {
        says("Of the latest of both that was not -2 what 0: its FAULT (0), 1: its place (NONE). NONE for another what.");
        StraitHouse x = new StraitHouse();
        dueFault(x, 0, -1);
        strait(x, "land a a;");
        dueFault(x, 2, 7);
        convention(x, 0, "stay 100;");
        dueFault(x, 4, 5);
        put(x, "?");
        dueFault(x, 4, 5);
        x.convention(4);
        dueFault(x, 4, 5);
        x.strait();
        dueFault(x, 1, 0);
        convention(x, 3, "stay 99;");
        dueFault(x, 0, -1);
        convention(x, 3, "dues land a;");
        dueFault(x, 5, 10);
        strait(x, "land a;");
        dueFault(x, 0, -1);
        strait(x, "land a;land a;");
        dueFault(x, 3, 12);
        convention(x, 3, "kind a is day;");
        dueFault(x, 6, 10);
        x.convention(0);
        dueFault(x, 0, -1);
        for (int what : new int[] {-1, 2, 3, 10, MIN, MAX}) {
            refused("fault(" + what + ")", -1, y -> y.fault(what));
        }
        refused("fault(1)", -1, y -> y.fault(1));
    }

    private static void dueFault(StraitHouse x, int code, int place) {
        due("fault", x.fault(0), code);
        due("place", x.fault(1), place);
        due("another", x.fault(2), -1);
    }

    // ---- promise 11 ----

    private static void kindAnswers() {
        says("Its KIND by a SHELF; NONE if it has none, or one is none.");
        StraitHouse x = full();
        due("ship 0", x.kind(0, 0), 0);
        due("ship 1", x.kind(0, 1), 1);
        due("ship 1 by the other shelf", x.kind(1, 1), 0);
        due("it has none", x.kind(1, 2), -1);
        due("it has none by an empty shelf", x.kind(3, 0), -1);
        for (int n : new int[] {-1, 4, MIN, MAX}) {
            refused("kind(" + n + ", 0)", -1, y -> y.kind(n, 0));
        }
        for (int n : new int[] {-1, 3, 19, 20, MIN, MAX}) {
            refused("kind(0, " + n + ")", -1, y -> y.kind(0, n));
        }
        x = house("land a;", "kind a is 1;");
        for (int i = 0; i < 20; i++) {
            due("not yet", x.kind(0, i), -1);
            x.ship(0, 1, 10, 1, 0, 0, 0, false);
            due("now", x.kind(0, i), 0);
        }
        due("there are 20", x.kind(0, 20), -1);
    }
}
