import java.io.IOException;

/** Terms I and promises 1 to 5: THE TAPE, the text of a GAME, its FAULTS; a new object. */
public final class TextTest {
    private static final String YARD = "yard long 9 lanes 2 runs 3;";
    private static final String VERSE = "verse 2,3;";
    private static final String ONE = "one turns 5 looks 4 eye 2 sees 9;";
    private static final String WAY = " lane 1 pace 2 wobble 3 tall 99 expects 4 brave";
    private static final String ANN = "creeper ann" + WAY;
    private static final String WHOLE_TEXT = YARD + VERSE + ONE + ANN;
    private static final String[] KEPT = {"yard", "verse", "one", "gravel", "creeper", "brave", "safe", "sly"};

    public static void main(String[] args) throws IOException {
        Edges edges = new Edges();
        tokens(edges);
        lines(edges);
        faults(edges);
        promises(edges);
        edges.end();
    }

    private static void tokens(Edges edges) {
        edges.of("Terms I", "THE TAPE has 900 bytes", TextTest::fullTape);
        edges.of("Terms I", "blanks, 32, part TOKENS and mean nothing else", TextTest::blanks);
        edges.of("Terms I", "WORDS of 1 to 8 small letters that stand together", TextTest::words);
        edges.of("Terms I", "WHOLES of 1 to 3 digits that do", TextTest::wholes);
        edges.of("Terms I", "single ones of ; ,)", TextTest::singles);
        edges.of("Terms I", "LINE {; LINE}.", TextTest::linesOfAText);
    }

    private static void lines(Edges edges) {
        edges.of("Terms I", "yard long WHOLE lanes WHOLE runs WHOLE (4 .. 40, 1 .. 6, 1 .. 9)", TextTest::yard);
        edges.of("Terms I", "verse PART {, PART}", TextTest::parts);
        edges.of("Terms I", "(PART: 1 to 4 WHOLES,", TextTest::syllables);
        edges.of("Terms I", "1 .. 20 each, syllables in tenths;", TextTest::tenthsOfSyllables);
        edges.of("Terms I", "up to 5 PARTS)", TextTest::fiveParts);
        edges.of("Terms I", "one turns WHOLE {, WHOLE} looks WHOLE eye WHOLE sees WHOLE (behind the verse;", TextTest::behindTheVerse);
        edges.of("Terms I", "0 .. 100 for each PART but the last,", TextTest::chances);
        edges.of("Terms I", "or none then: one looks ..;", TextTest::noChances);
        edges.of("Terms I", "1 .. 60, 1 .. 20, 0 .. 100)", TextTest::oneBounds);
        edges.of("Terms I", "gravel lane WHOLE from WHOLE to WHOLE loud WHOLE (behind the yard;", TextTest::gravelBehindTheYard);
        edges.of("Terms I", "a LANE, 0 up to lanes less 1; 1 up to long,", TextTest::gravelPlace);
        edges.of("Terms I", "the latter not below the former;", TextTest::gravelTo);
        edges.of("Terms I", "1 .. 99; up to 5)", TextTest::gravelLoudAndRoom);
        edges.of("Terms I", "creeper NAME lane WHOLE pace WHOLE wobble WHOLE tall WHOLE expects WHOLE WAY (behind the yard;",
            TextTest::creeperBehindTheYard);
        edges.of("Terms I", "a LANE; 1 .. 20, 0 .. 100, 60 .. 199, 0 .. 100;", TextTest::traits);
        edges.of("Terms I", "0 .. 100; up to 5). WAY:", TextTest::fiveCreepers);
        edges.of("Terms I", "WAY: brave, or safe WHOLE (1 .. 5), or sly WHOLE (1 .. 20).", TextTest::waysToGo);
        edges.of("Terms I", "NAMES are WORDS but yard, verse, one, gravel, creeper, brave, safe, sly;", TextTest::names);
        edges.of("Terms I", "each told once.", TextTest::namesOnce);
    }

    private static void faults(Edges edges) {
        edges.of("Terms I", "FAULTS, the first that is met from the left,", TextTest::fromTheLeft);
        edges.of("Terms I", "of one place the least number:", TextTest::leastNumber);
        edges.of("Terms I", "1 FORM: the first byte that begins no TOKEN", TextTest::noToken);
        edges.of("Terms I", "(of more letters, digits that stand together: the first of them)", TextTest::firstOfThem);
        edges.of("Terms I", "or TOKEN with which no GAME goes on", TextTest::goesOnWithNone);
        edges.of("Terms I", "(the end: its place)", TextTest::atTheEnd);
        edges.of("Terms I", "3 a NAME told again; at it;", TextTest::nameAgain);
        edges.of("Terms I", "a second yard, verse, one; at that WORD.", TextTest::lineAgain);
        edges.of("Terms I", "4 a WHOLE out of bounds; at it.", TextTest::outOfBounds);
        edges.of("Terms I", "5 MANY: a gravel, creeper more than there is room for, at its first WORD;", TextTest::manyLines);
        edges.of("Terms I", "a fifth WHOLE of a PART,", TextTest::fifthWhole);
        edges.of("Terms I", "a sixth PART,", TextTest::sixthPart);
        edges.of("Terms I", "a WHOLE more than PARTS but one behind turns; at it.", TextTest::oneChanceMore);
        edges.of("Terms I", "6 LACKS: a one ahead of the verse,", TextTest::oneAhead);
        edges.of("Terms I", "a gravel or creeper ahead of the yard, at its first WORD;", TextTest::aheadOfTheYard);
        edges.of("Terms I", "at the end: no yard, no verse, no one, no creeper.", TextTest::lacksAtTheEnd);
    }

    private static void promises(Edges edges) {
        edges.of("Promise 1", "No GAME.", TextTest::newObject);
        edges.of("Promise 2", "of each number the highest first: how many it has;", TextTest::bytesOfNumbers);
        edges.of("Promise 2", "NONE, and none comes, if there would be more than 900.", TextTest::noMoreThan900);
        edges.of("Promise 3", "The first n bytes of THE TAPE", TextTest::onlyTheFirst);
        edges.of("Promise 3", "(it is empty then)", TextTest::emptyTape);
        edges.of("Promise 3", "are the GAME from now on", TextTest::fromNowOn);
        edges.of("Promise 3", "how many creepers.", TextTest::howManyCreepers);
        edges.of("Promise 3", "(all at the line, SEED 0; no MARKS, FILMS, STOPS)", TextTest::fromTheBeginning);
        edges.of("Promise 3", "NONE: 2 (THE TAPE stays);", TextTest::tapeStays);
        edges.of("Promise 3", "4 (the GAME stays).", TextTest::gameStays);
        edges.of("Promise 4", "The FAULT of the latest game() not refused by 2;", TextTest::latestFault);
        edges.of("Promise 4", "0 without one.", TextTest::noFault);
        edges.of("Promise 5", "Its place, if the latest call that may be refused was by 4;", TextTest::placeOfTheFault);
        edges.of("Promise 5", "NONE else.", TextTest::noPlace);
    }

    private static String creepers(int n) {
        StringBuilder all = new StringBuilder();
        for (int i = 0; i < n; i++) {
            all.append(i == 0 ? "" : ";").append("creeper ").append((char) ('a' + i)).append(WAY);
        }
        return all.toString();
    }

    private static String gravels(int n) {
        return "gravel lane 0 from 1 to 9 loud 99;".repeat(n);
    }

    /** The text is a GAME of so many creepers. */
    private static StillYard isTold(Check check, String text, int creepers) {
        StillYard x = new StillYard();
        check.well(text, x, Check.read(x, text), creepers);
        check.due(text + ": fault", x.fault(), 0);
        return x;
    }

    private static void faultOf(Check check, StillYard x, String text, int fault, int place) {
        check.refused(text, x, Check.read(x, text), 4);
        check.due(text + ": fault", x.fault(), fault);
        check.due(text + ": where", x.where(), place);
    }

    /** The place is where the sign | stands in the text, which is not a part of it. */
    private static void faultAt(Check check, int fault, String... marked) {
        for (String text : marked) {
            faultOf(check, new StillYard(), text.replace("|", ""), fault, text.indexOf('|'));
        }
    }

    // ---- tokens

    private static void fullTape(Check check) {
        String blanks = " ".repeat(900 - WHOLE_TEXT.length());
        isTold(check, blanks + WHOLE_TEXT, 1);
        isTold(check, WHOLE_TEXT + blanks, 1);
        faultOf(check, new StillYard(), WHOLE_TEXT + blanks.substring(1) + "?", 1, 899);
        faultOf(check, new StillYard(), " ".repeat(900), 1, 900);
    }

    private static void blanks(Check check) {
        isTold(check, "   " + WHOLE_TEXT + "   ", 1);
        isTold(check, WHOLE_TEXT.replace(" ", "    ").replace(",", " , ").replace(";", "  ;  "), 1);
        isTold(check, "yard long9lanes2runs3;verse2,3;one turns5looks4eye2sees9;creeper ann lane1pace2wobble3tall99expects4brave", 1);
        faultAt(check, 1, "|ya rd long 9", "yard |lo ng 9", "|yardlong 9", "yard long 9 |lanesruns", YARD + VERSE + ONE + ANN + " |x");
        faultAt(check, 4, "yard long |1 0 lanes");
        for (char sign : new char[] {0, 9, 10, 13, 31, 33, 127, 160}) {
            faultAt(check, 1, "yard|" + sign + "long 9");
        }
    }

    private static void words(Check check) {
        isTold(check, WHOLE_TEXT.replace("ann", "a"), 1);
        isTold(check, WHOLE_TEXT.replace("ann", "abcdefgh"), 1);
        isTold(check, WHOLE_TEXT.replace("ann", "z"), 1);
        faultAt(check, 1, YARD + "creeper |abcdefghi" + WAY, YARD + "creeper |abcdefghijklmnopqrstuvwxyz" + WAY, "|yarddddddd",
            YARD + "creeper |Ann" + WAY, YARD + "creeper |`" + WAY, YARD + "creeper |{" + WAY, YARD + "creeper |Z" + WAY,
            YARD + "creeper |@" + WAY, YARD + "creeper |[" + WAY, YARD + "creeper |" + (char) 225 + WAY, YARD + "creeper |_" + WAY,
            "|YARD long 9", YARD + "creeper an|N" + WAY, YARD + "creeper an|4" + WAY, YARD + "creeper |4" + WAY);
        StillYard x = isTold(check, YARD + VERSE + ONE + "creeper za" + WAY + ";creeper az" + WAY + ";creeper zaz" + WAY
            + ";creeper z" + WAY + ";creeper a" + WAY, 5);
        check.due("all told", x.size(4), 5);
    }

    private static void wholes(Check check) {
        check.due("one digit", isTold(check, WHOLE_TEXT, 1).size(0), 9);
        check.due("two digits", isTold(check, WHOLE_TEXT.replace("long 9", "long 09"), 1).size(0), 9);
        check.due("three digits", isTold(check, WHOLE_TEXT.replace("long 9", "long 009"), 1).size(0), 9);
        check.due("three digits of worth", isTold(check, WHOLE_TEXT.replace("tall 99", "tall 190"), 1).creeper(0, 3), 190);
        check.due("all of noughts", isTold(check, WHOLE_TEXT.replace("wobble 3", "wobble 000"), 1).creeper(0, 2), 0);
        faultAt(check, 1, "yard long |0009 lanes", "yard long |1234", "yard long |99999999999999999999", "yard long |-9",
            "yard long |/", "yard long |:", "yard long |+9", "yard long |.9");
        faultAt(check, 4, "yard long |999 lanes");
    }

    private static void singles(Check check) {
        faultAt(check, 1, "|;", "|,", YARD + "|;", YARD + "|,", "verse 1,|,", "verse 1,|;", "verse |,", "verse 1|:", "verse 1|.",
            "yard long 9|,", "yard long 9|;", "yard|;", YARD.replace(";", "|,") + VERSE, YARD + ANN + "|,");
    }

    private static void linesOfAText(Check check) {
        isTold(check, VERSE + YARD + ONE + ANN, 1);
        isTold(check, YARD + ANN + ";" + VERSE + ONE + "gravel lane 0 from 1 to 1 loud 1", 1);
        isTold(check, VERSE + ONE + YARD + gravels(1) + ANN, 1);
        faultAt(check, 1, "|", "|;" + WHOLE_TEXT, WHOLE_TEXT + ";|", WHOLE_TEXT + "; |;", WHOLE_TEXT + "|,",
            "yard long 9 lanes 2 runs 3 |verse 2,3", "verse 2,3 |yard", VERSE + "one turns 5 looks 4 eye 2 sees 9 |yard");
    }

    // ---- lines

    private static void yard(Check check) {
        String[] least = {"long 9", "long 4", "lanes 2", "lanes 1", "lane 1", "lane 0", "runs 3", "runs 1"};
        StillYard x = isTold(check, replaced(least), 1);
        check.due("the least long", x.size(0), 4);
        check.due("the least lanes", x.size(1), 1);
        check.due("one long is run at pace 2", x.home(0, 4), 0);
        x = isTold(check, replaced("long 9", "long 40", "lanes 2", "lanes 6", "runs 3", "runs 9", "pace 2", "pace 19"), 1);
        check.due("the greatest long", x.size(0), 40);
        check.due("the greatest lanes", x.size(1), 6);
        check.due("360 are run: 37 times 19 by 2 is 352", x.home(0, 37), 0);
        check.due("38 times 19 by 2 is 361", x.home(0, 38), 1);
        faultAt(check, 4, "yard long |3", "yard long |41", "yard long |0", "yard long 4 lanes |0", "yard long 4 lanes |7",
            "yard long 4 lanes 1 runs |0", "yard long 4 lanes 1 runs |10");
        faultAt(check, 1, "yard |lanes", "yard long |lanes", "yard long 9 |runs", "yard long 9 lanes 2|;", "yard long 9 lanes 2 runs|",
            "yard long 9 |long");
    }

    private static String replaced(String... pairs) {
        String text = WHOLE_TEXT;
        for (int i = 0; i < pairs.length; i += 2) {
            text = text.replace(pairs[i], pairs[i + 1]);
        }
        return text;
    }

    private static void parts(Check check) {
        StillYard x = isTold(check, YARD + "verse 7;one looks 1 eye 1 sees 1;" + ANN, 1);
        check.due("one PART", x.size(2), 1);
        check.due("its tenths", x.size(9), 7);
        faultAt(check, 1, "verse |;", "verse|", "verse 1 ,|", "verse 1,|,1", "verse |yard", YARD + "verse |a");
    }

    private static void syllables(Check check) {
        StillYard x = isTold(check, YARD + "verse 1 2 3 4,5;one turns 0 looks 1 eye 1 sees 1;" + ANN, 1);
        check.due("four of them, and one", x.size(9), 15);
        x.tenths(9);
        check.due("the fourth is said", x.play(1) * 10 + x.play(2), 33);
        faultAt(check, 5, "verse 1 2 3 4 |5", "verse 1 2 3 4 |5 6", "verse 1,1 2 3 4 |5", "verse 1 2 3 4,1,1,1,1 2 3 4 |1");
        faultAt(check, 1, "verse |,1", "verse 1,|");
    }

    private static void tenthsOfSyllables(Check check) {
        StillYard x = isTold(check, YARD + "verse 1 20,20 1;one turns 0 looks 1 eye 1 sees 1;" + ANN, 1);
        check.due("1 and 20 and 20 and 1", x.size(9), 42);
        x = isTold(check, YARD + "verse " + "20 20 20 20,".repeat(4) + "20 20 20 20;one turns 0,0,0,0 looks 1 eye 1 sees 1;" + ANN, 1);
        check.due("the longest verse", x.size(9), 400);
        faultAt(check, 4, "verse |0", "verse |21", "verse 1 |0", "verse 1 |21", "verse 1 1 1 |21", "verse 1,|0", "verse 1,|21",
            "verse 20 20 20 20,20 |0");
    }

    private static void fiveParts(Check check) {
        StillYard x = isTold(check, YARD + "verse 1,2,3,4,5;one turns 0,0,0,0 looks 1 eye 1 sees 1;" + ANN, 1);
        check.due("five PARTS", x.size(2), 5);
        check.due("all their tenths", x.size(9), 15);
        faultAt(check, 5, "verse 1,2,3,4,5,|6", "verse 1 1 1 1,2,3,4,5 5 5 5,|6");
    }

    private static void behindTheVerse(Check check) {
        isTold(check, "verse 2,3;one turns 5 looks 4 eye 2 sees 9;" + YARD + ANN, 1);
        faultAt(check, 6, "|one turns 5 looks 4 eye 2 sees 9;" + VERSE + YARD + ANN, YARD + "|one looks 4");
        faultAt(check, 1, VERSE + "one |5", VERSE + "one turns |looks", VERSE + "one turns 5 |eye", VERSE + "one turns 5 looks |eye",
            VERSE + "one turns 5 looks 4 |sees", VERSE + "one turns 5 looks 4 eye|", VERSE + "one turns 5 looks 4 eye 2|;",
            VERSE + "one turns 5 looks 4 eye 2 sees|;", VERSE + "one turns 5 looks 4 eye 2 sees 9 |9");
    }

    private static void chances(Check check) {
        StillYard x = isTold(check, YARD + "verse 1,1,1;one turns 0,100 looks 1 eye 1 sees 1;" + ANN, 1);
        check.due("0 is never", x.behind(0), 0);
        check.due("100 is always", x.behind(1), 10000);
        x = isTold(check, YARD + "verse 1,1,1,1,1;one turns 1,2,3,100 looks 1 eye 1 sees 1;" + ANN, 1);
        check.due("four chances: the first", x.behind(0), 1000000);
        check.due("the last PART needs none", x.behind(4), 0);
        faultAt(check, 4, VERSE + "one turns |101", VERSE + "one turns |999", "verse 1,1,1;one turns 100,|101");
        faultAt(check, 1, "verse 1,1,1;one turns 1 |looks", "verse 1,1,1;one turns 1,|looks", "verse 1,1,1,1,1;one turns 1,1,1|;",
            VERSE + "one turns|", VERSE + "one turns |,");
    }

    private static void noChances(Check check) {
        StillYard x = isTold(check, YARD + "verse 7;one looks 1 eye 1 sees 1;" + ANN, 1);
        check.due("one way of no draws", x.ways(), 1);
        x = isTold(check, YARD + "verse 7 7 7 7;one looks 1 eye 1 sees 1;" + ANN, 1);
        check.due("one PART of four syllables", x.behind(0), 1);
        faultAt(check, 1, "verse 7;one |turns 5 looks 1", "verse 7;one |turns looks", VERSE + "one |looks 1 eye 1 sees 1");
    }

    private static void oneBounds(Check check) {
        String verse = YARD + "verse 7;";
        check.due("1 by 20", isTold(check, verse + "one looks 1 eye 20 sees 0;" + ANN, 1).size(10), 0);
        check.due("60 by 1", isTold(check, verse + "one looks 60 eye 1 sees 100;" + ANN, 1).size(10), 60);
        check.due("60 by 20", isTold(check, verse + "one looks 60 eye 20 sees 100;" + ANN, 1).size(10), 3);
        faultAt(check, 4, verse + "one looks |0", verse + "one looks |61", verse + "one looks 1 eye |0", verse + "one looks 1 eye |21",
            verse + "one looks 1 eye 1 sees |101");
    }

    private static void gravelBehindTheYard(Check check) {
        isTold(check, YARD + gravels(1) + VERSE + ONE + ANN, 1);
        isTold(check, YARD + VERSE + ONE + ANN + ";gravel lane 1 from 9 to 9 loud 1", 1);
        faultAt(check, 6, "|" + gravels(1) + YARD, VERSE + "|gravel lane");
        faultAt(check, 1, YARD + "gravel |from", YARD + "gravel lane |from", YARD + "gravel lane 0 |to", YARD + "gravel lane 0 from 1 |loud",
            YARD + "gravel lane 0 from 1 to 2|;", YARD + "gravel lane 0 from 1 to 2 loud|;", YARD + "gravel lane 0 from 1 to 2 loud 1 |1");
    }

    private static void gravelPlace(Check check) {
        StillYard x = isTold(check, YARD + "gravel lane 0 from 1 to 1 loud 5;gravel lane 1 from 9 to 9 loud 6;" + VERSE + ONE + ANN, 1);
        check.due("the first lane and cell", x.loud(0, 1), 5);
        check.due("the last lane and cell", x.loud(1, 9), 6);
        faultAt(check, 4, YARD + "gravel lane |2", YARD + "gravel lane |6", YARD + "gravel lane 1 from |0", YARD + "gravel lane 1 from |10",
            YARD + "gravel lane 0 from 1 to |10", YARD + "gravel lane 0 from 9 to |10");
        isTold(check, "yard long 40 lanes 6 runs 3;gravel lane 5 from 40 to 40 loud 6;" + VERSE + ONE + ANN, 1);
    }

    private static void gravelTo(Check check) {
        StillYard x = isTold(check, YARD + "gravel lane 0 from 5 to 5 loud 7;" + VERSE + ONE + ANN, 1);
        check.due("one cell", x.loud(0, 4) * 100 + x.loud(0, 5) * 10 + x.loud(0, 6), 70);
        faultAt(check, 4, YARD + "gravel lane 0 from 5 to |4", YARD + "gravel lane 0 from 9 to |8", YARD + "gravel lane 0 from 2 to |0");
    }

    private static void gravelLoudAndRoom(Check check) {
        StillYard x = isTold(check, YARD + "gravel lane 0 from 5 to 5 loud 1;gravel lane 0 from 6 to 6 loud 99;" + gravels(2)
            + "gravel lane 1 from 5 to 5 loud 98;" + VERSE + ONE + ANN, 1);
        check.due("five gravels", x.size(3), 5);
        check.due("the fifth", x.loud(1, 5), 98);
        faultAt(check, 4, YARD + "gravel lane 0 from 5 to 5 loud |0", YARD + "gravel lane 0 from 5 to 5 loud |100");
        faultAt(check, 5, YARD + gravels(5) + "|gravel lane 0 from 5 to 5 loud 1;");
    }

    private static void creeperBehindTheYard(Check check) {
        isTold(check, YARD + ANN + ";" + VERSE + ONE + creepers(1), 2);
        faultAt(check, 6, "|" + ANN + ";" + YARD, VERSE + ONE + "|creeper ann");
        faultAt(check, 1, YARD + "creeper |;", YARD + "creeper a |pace", YARD + "creeper a lane |pace", YARD + "creeper a lane 1 |wobble",
            YARD + "creeper a lane 1 pace 2 |tall", YARD + "creeper a lane 1 pace 2 wobble 3 |expects",
            YARD + "creeper a lane 1 pace 2 wobble 3 tall 99 |brave", YARD + "creeper a lane 1 pace 2 wobble 3 tall 99 expects|;",
            YARD + "creeper a lane 1 pace 2 wobble 3 tall 99 expects 4|;", YARD + "creeper a lane 1 pace 2 wobble 3 tall 99 expects 4 |slow");
    }

    private static void traits(Check check) {
        StillYard x = isTold(check, YARD + VERSE + ONE + Told.creeper("a", 0, 1, 0, 60, 0, "brave") + ";"
            + Told.creeper("b", 1, 20, 100, 199, 100, "brave"), 2);
        int[][] rows = {{0, 1, 0, 60, 0}, {1, 20, 100, 199, 100}};
        for (int what = 0; what < 5; what++) {
            check.due("the least", x.creeper(0, what), rows[0][what]);
            check.due("the greatest", x.creeper(1, what), rows[1][what]);
        }
        String a = YARD + "creeper a lane 1 pace 1 wobble 1 tall 60 expects ";
        faultAt(check, 4, YARD + "creeper a lane |2", YARD + "creeper a lane 1 pace |0", YARD + "creeper a lane 1 pace |21",
            YARD + "creeper a lane 1 pace 1 wobble |101", YARD + "creeper a lane 1 pace 1 wobble 1 tall |59",
            YARD + "creeper a lane 1 pace 1 wobble 1 tall |200", a + "|101");
    }

    private static void fiveCreepers(Check check) {
        StillYard x = isTold(check, YARD + VERSE + ONE + creepers(4) + ";" + Told.steady("last", 0, 17, "sly 9"), 5);
        check.due("the fifth", x.creeper(4, 1), 17);
        faultAt(check, 5, YARD + creepers(5) + ";|creeper f" + WAY, YARD + creepers(5) + ";|creeper a");
    }

    private static void waysToGo(Check check) {
        StillYard x = isTold(check, YARD + VERSE + ONE + Told.steady("a", 0, 1, "brave") + ";" + Told.steady("b", 0, 1, "safe 1") + ";"
            + Told.steady("c", 0, 1, "safe 5") + ";" + Told.steady("d", 0, 1, "sly 1") + ";" + Told.steady("e", 0, 1, "sly 20"), 5);
        int[] waysAndNumbers = {0, 101, 105, 201, 220};
        for (int c = 0; c < 5; c++) {
            check.due("way of " + c, x.creeper(c, 5) * 100 + x.creeper(c, 6), waysAndNumbers[c]);
        }
        String a = YARD + "creeper a lane 1 pace 1 wobble 1 tall 60 expects 1 ";
        faultAt(check, 4, a + "safe |0", a + "safe |6", a + "sly |0", a + "sly |21");
        faultAt(check, 1, a + "brave |1", a + "safe|;", a + "sly|", a + "|1", a + "safe 1 |1", a + "sly |safe");
    }

    private static void names(Check check) {
        for (String kept : KEPT) {
            faultAt(check, 1, YARD + "creeper |" + kept + WAY);
            isTold(check, WHOLE_TEXT.replace("ann", kept + "s"), 1);
            isTold(check, WHOLE_TEXT.replace("ann", kept.substring(1)), 1);
        }
        for (String word : new String[] {"long", "lanes", "runs", "turns", "looks", "eye", "sees", "lane", "from", "to", "loud", "pace",
            "wobble", "tall", "expects"}) {
            isTold(check, WHOLE_TEXT.replace("ann", word), 1);
        }
    }

    private static void namesOnce(Check check) {
        isTold(check, YARD + VERSE + ONE + ANN + ";creeper an" + WAY + ";creeper anna" + WAY + ";creeper nna" + WAY, 4);
        faultAt(check, 3, YARD + ANN + ";creeper |ann" + WAY, YARD + creepers(4) + ";creeper |a" + WAY,
            YARD + creepers(4) + ";creeper |d", YARD + "creeper abcdefgh" + WAY + ";creeper |abcdefgh");
        isTold(check, YARD + "creeper abcdefgh" + WAY + ";creeper abcdefgi" + WAY + ";" + VERSE + ONE + "creeper bbcdefgh" + WAY, 3);
    }

    // ---- faults

    private static void fromTheLeft(Check check) {
        faultAt(check, 4, "yard long |3 ?", "yard long |41 lanes 9;yard", YARD + ANN.replace("pace 2", "pace |0") + ";yard?");
        faultAt(check, 1, "|? yard long 3", "yard |? 3", "yard long |12345 lanes 0");
        faultAt(check, 3, YARD + "|yard long 3", YARD + ANN + ";creeper |ann lane 9");
        faultAt(check, 6, "|one turns 101", "|creeper yard", "|gravel lane 9");
        faultAt(check, 5, YARD + gravels(5) + "|gravel lane 9", YARD + creepers(5) + ";|creeper yard", "verse 1 1 1 1 |1 0");
        faultAt(check, 4, "verse |0 1 1 1 1", VERSE + "one turns |101,1");
    }

    private static void leastNumber(Check check) {
        faultAt(check, 4, "verse 1 1 1 1 |0", "verse 1 1 1 1 |21", "verse 1,1,1,1,1,|0", "verse 1,1,1,1,1,|21", VERSE + "one turns 1,|101");
        faultAt(check, 1, "verse 1 1 1 1 |1234", "verse 1,1,1,1,1,|1234", VERSE + "one turns 1,|1234", "|", "yard long 9 lanes 2 runs|",
            YARD + "|", VERSE + "one turns 5 looks 4 eye 2 sees|", YARD + "creeper a lane |1234");
    }

    private static void noToken(Check check) {
        for (char sign : new char[] {0, 1, 31, '!', '-', '.', '/', ':', '<', '@', 'A', 'Z', '[', '`', '{', '~', 127, 128, 255}) {
            faultAt(check, 1, "|" + sign, "yard long 9|" + sign, YARD + "|" + sign, WHOLE_TEXT + "|" + sign);
            faultAt(check, 1, "yard |lo" + sign + "ng", "yard long |12345" + sign);
        }
    }

    private static void firstOfThem(Check check) {
        faultAt(check, 1, "|abcdefghi", "  |verseverse 1", "yard long |1000", "yard long |0004", "verse 1 |0001", VERSE + "one |turnsturns 5",
            YARD + "creeper |abcdefghi lane", YARD + "creeper a |lanelanelane 1");
        faultAt(check, 1, "yard long 9|A999", "yard |lo_ng", "|abcdefgh?", "|abcdefghi?");
    }

    private static void goesOnWithNone(Check check) {
        faultAt(check, 1, "|long 9", "|5", "|ann", "yard |5", "yard |yard", "yard long |ann", "yard long 9 |5", YARD + "|brave",
            "verse 1 |one", "verse 1|one", VERSE + "one |eye", VERSE + "one |turn 5", VERSE + "one turns 5 |look 4",
            VERSE + "one turns 5,|;", YARD + "gravel |a", YARD + "creeper a |a", YARD + "creeper |1", YARD + "creeper|,",
            YARD + ANN + " |creeper");
        String[] kept = (WHOLE_TEXT + ";creeper b lane 1 pace 1 wobble 1 tall 60 expects 1 safe 1;creeper c lane 1 pace 1 wobble 1 tall 60 "
            + "expects 1 sly 1;gravel lane 1 from 1 to 1 loud 1").split("(?<![a-z])(?=[a-z])");
        StringBuilder before = new StringBuilder();
        for (String word : kept) {
            boolean name = before.toString().endsWith("creeper ");
            for (int i = 0; i < word.length() && Character.isLetter(word.charAt(i)) && !name; i++) {
                otherWords(check, before.toString(), word, i);
            }
            before.append(word);
        }
    }

    /** Another letter at i, one letter more, one less: none of these is a WORD with which the GAME goes on. */
    private static void otherWords(Check check, String before, String word, int i) {
        faultAt(check, 1, before + "|" + word.substring(0, i) + "q" + word.substring(i + 1),
            before + "|" + word.substring(0, i) + "q" + word.substring(i),
            before + "|" + word.substring(0, i) + word.substring(i + 1));
    }

    private static void atTheEnd(Check check) {
        faultAt(check, 1, "|", "     |", "yard|", "yard    |", "yard long|", YARD + "|", YARD + "   |", "verse 1,|", "verse 1 ,  |",
            VERSE + "one turns 5|", VERSE + "one turns 5,|", YARD + "creeper ann|", YARD + "creeper a lane 1 pace 1 wobble 1 tall 60 expects 1|",
            YARD + "creeper a lane 1 pace 1 wobble 1 tall 60 expects 1 safe |", WHOLE_TEXT + ";|");
        StillYard x = new StillYard();
        Check.feed(x, WHOLE_TEXT);
        check.refused("cut off", x, x.game(12), 4);
        check.due("at the end of what is read", x.where(), 12);
    }

    private static void nameAgain(Check check) {
        faultAt(check, 3, YARD + ANN + ";creeper |ann", YARD + ANN + ";creeper   |ann lane", YARD + creepers(2) + ";creeper |b;",
            YARD + creepers(4) + ";creeper |c lane 0");
        faultAt(check, 4, YARD + ANN + ";creeper anne lane |9");
    }

    private static void lineAgain(Check check) {
        faultAt(check, 3, YARD + "|yard", YARD + "  |yard;", YARD + VERSE + "|yard long 9 lanes 2 runs 3", WHOLE_TEXT + ";|yard");
        faultAt(check, 3, "verse 1;|verse", "verse 1 1;|verse 1", VERSE + "|verse 1", "verse 1,1,1,1,1;|verse", WHOLE_TEXT + ";|verse");
        faultAt(check, 3, VERSE + ONE + "|one", "verse 1;one looks 1 eye 1 sees 0;|one looks", "verse 1;one looks 1 eye 2 sees 0;|one turns",
            WHOLE_TEXT + ";|one");
        isTold(check, YARD + VERSE + ONE + gravels(2) + ANN + ";creeper bob" + WAY, 2);
    }

    private static void outOfBounds(Check check) {
        faultAt(check, 4, "yard long   |3", "yard long |003 lanes", "yard long |41 lanes", "yard long|3", "yard long 9 lanes 2 runs |999;",
            VERSE + "one turns 5 looks |0 eye", YARD + "creeper a lane 1 pace |0");
    }

    private static void manyLines(Check check) {
        faultAt(check, 5, YARD + gravels(5) + "|gravel", YARD + gravels(5) + "   |gravel ?", YARD + creepers(5) + ";|creeper",
            YARD + creepers(5) + ";  |creeper ?", YARD + gravels(5) + creepers(5) + ";|gravel");
        isTold(check, YARD + gravels(5) + VERSE + ONE + creepers(5), 5);
    }

    private static void fifthWhole(Check check) {
        faultAt(check, 5, "verse 1 1 1 1 |1", "verse 1 1 1 1   |20;", "verse 1,1,1,1,2 2 2 2 |2");
    }

    private static void sixthPart(Check check) {
        faultAt(check, 5, "verse 1,1,1,1,1,|1", "verse 1,1,1,1,1,  |20 1", "verse 1,1,1,1,1 1 1 1,|1");
        faultAt(check, 1, "verse 1,1,1,1,1,|;", "verse 1,1,1,1,1,|");
    }

    private static void oneChanceMore(Check check) {
        faultAt(check, 5, VERSE + "one turns 1,|1", VERSE + "one turns 1,  |100 looks", "verse 1,1,1;one turns 1,1,|1",
            "verse 1,1,1,1,1;one turns 0,0,0,0,|0");
        faultAt(check, 1, VERSE + "one turns 1,|looks", VERSE + "one turns 1 |1");
    }

    private static void oneAhead(Check check) {
        faultAt(check, 6, "|one", "  |one turns 5", YARD + "|one looks 1", YARD + ANN + ";|one ?");
        faultAt(check, 1, "verse 1,1;one|");
    }

    private static void aheadOfTheYard(Check check) {
        faultAt(check, 6, "|gravel", "  |gravel lane 0", VERSE + "|gravel ?", "|creeper", VERSE + ONE + "|creeper ann");
    }

    private static void lacksAtTheEnd(Check check) {
        faultAt(check, 6, VERSE + ONE.replace(";", "|"));
        faultAt(check, 6, YARD + ANN + "|", YARD + ANN + "   |");
        faultAt(check, 6, YARD + VERSE + ANN + "|");
        faultAt(check, 6, YARD + VERSE + ONE.replace(";", "|"), YARD + gravels(1) + VERSE + ONE.replace(";", "  |"));
        faultAt(check, 6, YARD.replace(";", "|"), VERSE.replace(";", "|"));
        isTold(check, WHOLE_TEXT, 1);
        StillYard x = Check.yard(WHOLE_TEXT);
        faultOf(check, x, YARD + ANN, 6, (YARD + ANN).length());
        faultOf(check, x, VERSE + ONE.replace(";", ""), 6, (VERSE + ONE).length() - 1);
        faultOf(check, x, YARD + VERSE + ONE.replace(";", ""), 6, (YARD + VERSE + ONE).length() - 1);
    }

    // ---- promises

    private static void newObject(Check check) {
        StillYard x = new StillYard();
        for (int what = 0; what <= 10; what++) {
            check.due("size " + what, x.size(what), 0);
        }
        check.due("trouble", x.trouble(), 0);
        check.due("fault", x.fault(), 0);
        check.due("where", x.where(), -1);
        check.due("creeper", x.creeper(0, 0), -1);
        check.refused("ways", x, x.ways(), 1);
        check.due("none", StillYard.NONE, -1);
    }

    private static void bytesOfNumbers(Check check) {
        StillYard x = new StillYard();
        check.due("twenty", x.feed(0x79617264, 0x206c6f6e, 0x6720332d, -1, -1), 20);
        check.refused("yard long 3", x, x.game(11), 4);
        check.due("3 is the eleventh byte", x.where(), 10);
        check.due("twenty again", x.feed(Integer.MIN_VALUE, -1, 0, 1, Integer.MAX_VALUE), 20);
        check.due("forty", x.feed(-1, -1, -1, -1, -1), 40);
        check.refused("128 is no TOKEN", x, x.game(40), 4);
        check.due("the first byte", x.where(), 0);
        for (int last = 17; last <= 20; last++) {
            x.feed(0x20202020, 0x20202020, 0x20202020, 0x20202020, 0x3f3f3f3f >>> 8 * (last - 17));
            int first = x.game(last);
            check.due("a byte at " + last, first, -1);
            check.due("its place", x.where(), 16);
        }
    }

    private static void noMoreThan900(Check check) {
        StillYard x = new StillYard();
        for (int i = 1; i <= 45; i++) {
            check.due("feed " + i, x.feed(0x20202020, 0x20202020, 0x20202020, 0x20202020, 0x20202020), 20 * i);
        }
        check.due("feed 46", x.feed(0x79617264, 0, 0, 0, 0), -1);
        check.due("none comes", x.size(6), 900);
        check.due("feed 47", x.feed(0, 0, 0, 0, 0), -1);
        check.due("no trouble of feed's", x.trouble(), 0);
        check.refused("all blanks", x, x.game(900), 4);
        check.due("to the end", x.where(), 900);
        check.due("room again", x.feed(0, 0, 0, 0, 0), 20);
    }

    private static void onlyTheFirst(Check check) {
        StillYard x = new StillYard();
        Check.feed(x, WHOLE_TEXT + "?");
        check.well("without the last", x, x.game(WHOLE_TEXT.length()), 1);
        Check.feed(x, WHOLE_TEXT + "?");
        check.refused("with it", x, x.game(WHOLE_TEXT.length() + 1), 4);
        check.due("at it", x.where(), WHOLE_TEXT.length());
        Check.feed(x, WHOLE_TEXT);
        check.refused("none of them", x, x.game(0), 4);
        check.due("the end is the beginning", x.where(), 0);
        check.due("FORM", x.fault(), 1);
        check.refused("none of an empty tape", x, x.game(0), 4);
        faultOf(check, new StillYard(), "", 1, 0);
    }

    private static void emptyTape(Check check) {
        StillYard x = new StillYard();
        Check.feed(x, WHOLE_TEXT + WHOLE_TEXT);
        x.game(WHOLE_TEXT.length());
        check.due("empty behind a GAME", x.size(6), 0);
        check.refused("nothing is left", x, x.game(1), 2);
        Check.feed(x, "?");
        check.due("twenty bytes", x.size(6), 20);
        x.game(1);
        check.due("empty behind a FAULT", x.size(6), 0);
        check.due("from the beginning", Check.read(x, WHOLE_TEXT), 1);
    }

    private static void fromTheBeginning(Check check) {
        String text = YARD + VERSE + "one turns 100 looks 4 eye 1 sees 0;" + ANN.replace("wobble 3", "wobble 100");
        StillYard x = Check.yard(text);
        check.due("SEED 0", x.size(5), 0);
        x.start(9);
        x.round();
        x.round();
        x.bring(0, 5);
        x.tenths(1);
        x.mark();
        x.film(0, true, true);
        x.stop(0, true);
        x.stop(0, true);
        check.due("a new one", Check.read(x, text), 1);
        for (int what = 0; what < 5; what++) {
            check.due("about " + what, x.about(0, what), what == 2 ? -2 : 0);
        }
        for (int what = 0; what < 8; what++) {
            check.due("play " + what, x.play(what), what == 6 ? -2 : 0);
        }
        check.due("SEED 0 again", x.size(5), 0);
        check.due("no MARKS", x.size(7), 0);
        check.denied("no MARK 0", x, x.back(0), 1);
        check.due("no FILMS", x.size(8), 0);
        check.refused("no law", x, x.law(0), 6);
        check.due("none off", x.off(), 0);
        check.refused("no STOPS", x, x.span(0, true), 6);
        check.due("the first STOP", x.stop(0, false), 1);
        check.due("none wobbled", x.span(0, false), 0);
        x.film(0, true, false);
        check.due("one FILM alone", x.law(0), 0);
    }

    /** One object reads what fresh ones read, and between them texts with FAULTS far on; nothing of the former is left. */
    private static void fromNowOn(Check check) {
        String full = "yard long 40 lanes 6 runs 9;verse 1 2 3 4,4 3 2 1,1 1 1 1,2 2 2 2,3 3 3 3;one turns 9,8,7,6 looks 60 eye 1 sees 99;"
            + "gravel lane 5 from 1 to 40 loud 99;".repeat(4) + "gravel lane 0 from 1 to 40 loud 98;" + creepers(4)
            + ";creeper e lane 5 pace 20 wobble 100 tall 199 expects 100 sly 20";
        String[] texts = {full, WHOLE_TEXT, YARD + "verse 3 1 2;one looks 1 eye 2 sees 0;" + ANN, full + ";creeper", full,
            "yard long 4 lanes 1 runs 1;verse 2,1 1;one turns 50 looks 1 eye 1 sees 1;" + gravels(0) + Told.steady("a", 0, 3, "brave"),
            full + ";gravel", YARD + "verse 1 1,1 1 1 1;one turns 0 looks 9 eye 3 sees 7;" + gravels(1) + creepers(2), WHOLE_TEXT, full};
        for (int i = 0; i + 2 < texts.length; i++) {
            StillYard x = new StillYard();
            StillYard told = x;
            for (int k = i; k < i + 3; k++) {
                StillYard fresh = new StillYard();
                int creepers = Check.read(fresh, texts[k]);
                check.due(texts[k], Check.read(x, texts[k]), creepers);
                told = creepers > 0 ? fresh : told;
            }
            toldAlike(check, "behind " + texts[i + 2], x, told);
            saidAlike(check, "behind " + texts[i + 2], x, told);
        }
    }

    private static void toldAlike(Check check, String when, StillYard x, StillYard told) {
        for (int what = 0; what <= 10; what++) {
            check.due("size " + what + " " + when, x.size(what), told.size(what));
        }
        for (int c = 0; c < told.size(4); c++) {
            for (int what = 0; what < 7; what++) {
                check.due("creeper " + c + ", " + what + " " + when, x.creeper(c, what), told.creeper(c, what));
            }
            check.due("far " + when, x.far(c), told.far(c));
            check.due("risk " + when, x.risk(c, 3, 3), told.risk(c, 3, 3));
        }
        for (int lane = 0; lane < told.size(1); lane++) {
            check.due("the first cell " + when, x.loud(lane, 1), told.loud(lane, 1));
            check.due("the fourth cell " + when, x.loud(lane, 4), told.loud(lane, 4));
        }
        for (int part = 0; part < told.size(2); part++) {
            check.due("behind " + part + " " + when, x.behind(part), told.behind(part));
        }
    }

    private static void saidAlike(Check check, String when, StillYard x, StillYard told) {
        for (int t = told.size(9); t > 0; t--) {
            x.tenths(1);
            told.tenths(1);
            check.due("the syllable " + when, x.play(1), told.play(1));
            check.due("tenths of it " + when, x.play(2), told.play(2));
        }
    }

    private static void howManyCreepers(Check check) {
        for (int n = 1; n <= 5; n++) {
            isTold(check, YARD + VERSE + ONE + creepers(n), n);
        }
    }

    private static void tapeStays(Check check) {
        StillYard x = new StillYard();
        Check.feed(x, WHOLE_TEXT);
        int all = x.size(6);
        for (int n : new int[] {-1, Integer.MIN_VALUE, all + 1, 901, Integer.MAX_VALUE}) {
            check.refused("game " + n, x, x.game(n), 2);
            check.due("tape stays", x.size(6), all);
        }
        check.well("as it was", x, x.game(WHOLE_TEXT.length()), 1);
        check.refused("all of it is read", x, x.game(1), 2);
        check.due("the GAME stays too", x.size(4), 1);
        Check.feed(x, WHOLE_TEXT + " ".repeat(all - WHOLE_TEXT.length()));
        check.well("all that it has", x, x.game(all), 1);
    }

    private static void gameStays(Check check) {
        StillYard x = Check.yard(WHOLE_TEXT.replace(ANN, gravels(1) + ANN));
        x.start(7);
        x.tenths(1);
        x.mark();
        x.film(0, true, true);
        x.stop(0, true);
        int[] sizes = new int[11];
        for (int what = 0; what < sizes.length; what++) {
            sizes[what] = x.size(what);
        }
        String[] wrong = {"?", "yard long 40 lanes 6 runs 9;verse 9 9,9,9;one turns 1,1 looks 60 eye 1 sees 99;gravel lane 0 from 1 to 9 loud 5;"
            + "gravel lane 0 from 1 to 9 loud 5;creeper b lane 5 pace 9 wobble 9 tall 100 expects 9 sly 9;creeper b", VERSE + ONE, YARD + ANN};
        for (String text : wrong) {
            check.refused(text, x, Check.read(x, text), 4);
            for (int what = 0; what < sizes.length; what++) {
                check.due("size " + what, x.size(what), sizes[what]);
            }
            check.due("the play", x.play(5), 1);
            check.due("the creeper", x.creeper(0, 1), 2);
            check.due("gravel", x.loud(0, 1), 99);
            check.due("films", x.law(0), 100);
            check.due("stops", x.span(0, true), 100);
        }
    }

    private static void latestFault(Check check) {
        StillYard x = new StillYard();
        Check.read(x, "yard long 3");
        check.due("BOUNDS", x.fault(), 4);
        x.game(1);
        check.due("not by 2", x.fault(), 4);
        x.ways();
        x.feed(0, 0, 0, 0, 0);
        check.due("not by others", x.fault(), 4);
        Check.read(x, "?");
        check.due("FORM", x.fault(), 1);
    }

    private static void noFault(Check check) {
        StillYard x = new StillYard();
        check.due("ahead of any", x.fault(), 0);
        x.game(1);
        check.due("refused by 2", x.fault(), 0);
        Check.read(x, "?");
        Check.read(x, WHOLE_TEXT);
        check.due("a well told one", x.fault(), 0);
    }

    private static void placeOfTheFault(Check check) {
        StillYard x = new StillYard();
        Check.read(x, "yard long 3");
        check.due("at the WHOLE", x.where(), 10);
        x.feed(0, 0, 0, 0, 0);
        x.size(0);
        x.creeper(0, 0);
        x.fault();
        x.trouble();
        check.due("calls that can't be refused", x.where(), 10);
        Check.read(x, "?");
        check.due("another", x.where(), 0);
    }

    private static void noPlace(Check check) {
        StillYard x = new StillYard();
        check.due("new", x.where(), -1);
        Check.read(x, "yard long 3");
        x.game(-1);
        check.due("behind one refused by 2", x.where(), -1);
        Check.read(x, "yard long 3");
        x.ways();
        check.due("behind one refused by 1", x.where(), -1);
        Check.read(x, WHOLE_TEXT);
        check.due("behind a well told GAME", x.where(), -1);
        Check.read(x, "yard long 3");
        x.ways();
        check.due("behind one that isn't refused", x.where(), -1);
        check.due("FAULT is kept", x.fault(), 4);
    }
}
