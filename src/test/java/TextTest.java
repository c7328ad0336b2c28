/** Promises 1 to 5: a new object, THE TAPE, the text of a GAME and its FAULTS. */
public final class TextTest {
    private static final Check CHECK = new Check();
    private static final String YARD = "yard long 9 lanes 2 runs 3;";
    private static final String VERSE = "verse 2,3;";
    private static final String ONE = "one turns 5 looks 4 eye 2 sees 9;";
    private static final String WAY = " lane 1 pace 2 wobble 3 tall 99 expects 4 brave";
    private static final String ANN = "creeper ann" + WAY;

    public static void main(String[] args) {
        newObject();
        tape();
        wellTold();
        form();
        again();
        bounds();
        many();
        lacks();
        whatStays();
        CHECK.end();
    }

    private static void newObject() {
        StillYard x = new StillYard();
        CHECK.due("new size 4", x.size(4), 0);
        CHECK.due("new size 6", x.size(6), 0);
        CHECK.due("new trouble", x.trouble(), 0);
        CHECK.due("new fault", x.fault(), 0);
        CHECK.due("new where", x.where(), -1);
        CHECK.refused("new ways", x, x.ways(), 1);
    }

    private static void tape() {
        StillYard x = new StillYard();
        for (int i = 1; i <= 45; i++) {
            CHECK.due("feed", x.feed(0, 0, 0, 0, 0), 20 * i);
        }
        CHECK.refused("game beyond", x, x.game(901), 2);
        CHECK.due("feed of 901", x.feed(0, 0, 0, 0, 0), -1);
        CHECK.due("no trouble of feed's own", x.trouble(), 2);
        CHECK.due("tape is full", x.size(6), 900);
        CHECK.refused("game of -1", x, x.game(-1), 2);
        CHECK.due("tape stays", x.size(6), 900);
        CHECK.refused("game of noughts", x, x.game(900), 4);
        CHECK.due("tape is empty", x.size(6), 0);
        CHECK.due("feed again", x.feed(-1, -1, -1, -1, -1), 20);
        faultOf(new StillYard(), "", 1, 0);
    }

    private static void wellTold() {
        StillYard x = Check.yard(YARD + VERSE + ONE + ANN);
        CHECK.due("well told fault", x.fault(), 0);
        CHECK.due("well told where", x.where(), -1);
        CHECK.due("any order", Check.read(x, VERSE + ONE + YARD + ANN), 1);
        CHECK.due("gravel last", Check.read(x, YARD + ANN + ";" + VERSE + ONE
            + "gravel lane 1 from 2 to 2 loud 1"), 1);
        CHECK.due("blanks apart", Check.read(x, "  " + YARD.replace(" ", "   ") + " " + VERSE + ONE + ANN + "  "), 1);
        CHECK.due("no blanks at all", Check.read(x, "yard long9lanes2runs3;verse2,3;" + ONE + ANN), 1);
        CHECK.due("noughts ahead", Check.read(x, "yard long 009 lanes 02 runs 3;" + VERSE + ONE + ANN), 1);
        CHECK.due("one part", Check.read(x, YARD + "verse 1 20 1 20;one looks 60 eye 20 sees 100;" + ANN), 1);
        CHECK.due("one part's tenths", x.size(9), 42);
        CHECK.due("a name like a word of the text", Check.read(x, YARD + VERSE + ONE + ANN
            + ";creeper long" + WAY + ";creeper turns" + WAY + ";creeper abcdefgh" + WAY), 4);
        CHECK.due("a to z", Check.read(x, YARD + VERSE + ONE + "creeper z" + WAY + ";creeper za" + WAY + ";creeper az" + WAY), 3);
        CHECK.due("five creepers", Check.read(x, YARD + VERSE + ONE + creepers(5)), 5);
        CHECK.due("five gravels", Check.read(x, YARD + VERSE + ONE + gravels(5) + ANN), 1);
        CHECK.due("gravels", x.size(3), 5);
        CHECK.due("five parts", Check.read(x, YARD + "verse 1,1,1,1,1;one turns 0,100,1,2 looks 1 eye 1 sees 0;" + ANN), 1);
        CHECK.due("parts", x.size(2), 5);
    }

    private static String creepers(int n) {
        StringBuilder all = new StringBuilder();
        for (int i = 0; i < n; i++) {
            all.append(i == 0 ? "" : ";").append("creeper ").append((char) ('a' + i)).append(WAY);
        }
        return all.toString();
    }

    private static String gravels(int n) {
        return "gravel lane 0 from 1 to 9 loud 99;".repeat(n);
    }

    private static void faultOf(StillYard x, String text, int fault, int place) {
        CHECK.refused(text, x, Check.read(x, text), 4);
        CHECK.due(text + ": fault", x.fault(), fault);
        CHECK.due(text + ": where", x.where(), place);
    }

    /** The place is where the sign | stands in the text, which is not a part of it. */
    private static void faultAt(String marked, int fault) {
        int place = marked.indexOf('|');
        faultOf(new StillYard(), marked.replace("|", ""), fault, place);
    }

    private static void form() {
        faultAt("|", 1);
        faultAt("   |", 1);
        faultAt("|;", 1);
        faultAt("|Yard", 1);
        faultAt("|yards long", 1);
        faultAt("|zard long", 1);
        faultAt("|{", 1);
        faultAt("|`", 1);
        faultAt("yard long |/", 1);
        faultAt("yard long |:", 1);
        faultAt("|12", 1);
        faultAt("yard |lanes", 1);
        faultAt("yard long |;", 1);
        faultAt("yard long|", 1);
        faultAt("yard long |1234 lanes", 1);
        faultAt("|abcdefghi", 1);
        faultAt("yard long 9|-", 1);
        faultAt("yard long 9 lanes 2 runs 3 |,", 1);
        faultAt("yard long 9 lanes 2 runs 3 |runs", 1);
        faultAt(YARD + "|", 1);
        faultAt(YARD + "|;", 1);
        faultAt(YARD + "verse |;", 1);
        faultAt(YARD + "verse 1,|,", 1);
        faultAt(YARD + "verse 1,  |", 1);
        faultAt(YARD + "verse 1,1,1,1,1,|;", 1);
        faultAt(VERSE + "one |looks", 1);
        faultAt(VERSE + "one turns |looks", 1);
        faultAt(VERSE + "one turns 1,|looks", 1);
        faultAt("verse 1,1,1;one turns 1 |looks", 1);
        faultAt("verse 1;one |turns 1", 1);
        faultAt(VERSE + "one turns 1 looks 1 eye 1 |see", 1);
        for (String kept : new String[] {"yard", "verse", "one", "gravel", "creeper", "brave", "safe", "sly"}) {
            faultAt(YARD + "creeper |" + kept + WAY, 1);
        }
        faultAt(YARD + "creeper |abcdefghi", 1);
        faultAt(YARD + "creeper |1", 1);
        faultAt(YARD + ANN + " |1", 1);
        faultAt(YARD + "creeper a lane 0 pace 1 wobble 1 tall 60 expects 1 |;", 1);
        faultAt(YARD + "creeper a lane 0 pace 1 wobble 1 tall 60 expects 1 safe |;", 1);
        faultAt(YARD + "gravel lane 0 from 1 to 2 |;", 1);
        faultAt(YARD + "|" + (char) 233, 1);
        faultAt(YARD + "|\t" + VERSE, 1);
    }

    private static void again() {
        faultAt(YARD + "|yard", 3);
        faultAt(VERSE + "|verse 1", 3);
        faultAt(VERSE + ONE + "|one", 3);
        faultAt(YARD + ANN + ";creeper |ann" + WAY, 3);
        faultAt(YARD + creepers(4) + ";creeper |a", 3);
    }

    private static void bounds() {
        faultAt("yard long |3", 4);
        faultAt("yard long |41", 4);
        faultAt("yard long 40 lanes |0", 4);
        faultAt("yard long 40 lanes |7", 4);
        faultAt("yard long 40 lanes 6 runs |0", 4);
        faultAt("yard long 40 lanes 6 runs |10", 4);
        faultAt("verse |0", 4);
        faultAt("verse 20 |21", 4);
        faultAt("verse 1 1 1 1 |21", 4);
        faultAt("verse 1,1,1,1,1,|0", 4);
        faultAt(VERSE + "one turns |101", 4);
        faultAt(VERSE + "one turns 1,|101", 4);
        faultAt(VERSE + "one turns 1 looks |0", 4);
        faultAt(VERSE + "one turns 1 looks |61", 4);
        faultAt(VERSE + "one turns 1 looks 1 eye |0", 4);
        faultAt(VERSE + "one turns 1 looks 1 eye |21", 4);
        faultAt(VERSE + "one turns 1 looks 1 eye 1 sees |101", 4);
        faultAt(YARD + "gravel lane |2", 4);
        faultAt(YARD + "gravel lane 1 from |0", 4);
        faultAt(YARD + "gravel lane 1 from |10", 4);
        faultAt(YARD + "gravel lane 1 from 4 to |3", 4);
        faultAt(YARD + "gravel lane 1 from 4 to |10", 4);
        faultAt(YARD + "gravel lane 1 from 4 to 4 loud |0", 4);
        faultAt(YARD + "gravel lane 1 from 4 to 4 loud |100", 4);
        faultAt(YARD + "creeper a lane |2", 4);
        faultAt(YARD + "creeper a lane 1 pace |0", 4);
        faultAt(YARD + "creeper a lane 1 pace |21", 4);
        faultAt(YARD + "creeper a lane 1 pace 1 wobble |101", 4);
        faultAt(YARD + "creeper a lane 1 pace 1 wobble 1 tall |59", 4);
        faultAt(YARD + "creeper a lane 1 pace 1 wobble 1 tall |200", 4);
        faultAt(YARD + "creeper a lane 1 pace 1 wobble 1 tall 60 expects |101", 4);
        faultAt(YARD + "creeper a lane 1 pace 1 wobble 1 tall 60 expects 1 safe |0", 4);
        faultAt(YARD + "creeper a lane 1 pace 1 wobble 1 tall 60 expects 1 safe |6", 4);
        faultAt(YARD + "creeper a lane 1 pace 1 wobble 1 tall 60 expects 1 sly |21", 4);
    }

    private static void many() {
        faultAt("verse 1 1 1 1 |1", 5);
        faultAt("verse 1,1,1,1,1,|1", 5);
        faultAt(VERSE + "one turns 1,|1", 5);
        faultAt(YARD + gravels(5) + "|gravel", 5);
        faultAt(YARD + creepers(5) + ";|creeper a", 5);
    }

    private static void lacks() {
        faultAt("|one", 6);
        faultAt("|gravel", 6);
        faultAt("|creeper", 6);
        faultAt(VERSE + ONE + "|creeper ann", 6);
        faultAt(VERSE + ONE.replace(";", "|"), 6);
        faultAt(YARD + VERSE + ONE.replace(";", "   |"), 6);
        faultAt(YARD + ANN + ";" + VERSE.replace(";", "|"), 6);
        faultAt(YARD + ANN + "|", 6);
    }

    private static void whatStays() {
        StillYard x = Check.yard(YARD + VERSE + ONE + ANN);
        x.tenths(3);
        x.mark();
        x.film(0, true, true);
        x.stop(0, true);
        faultOf(x, "yard long 4;", 1, 11);
        CHECK.due("the game stays", x.size(0), 9);
        CHECK.due("the play stays", x.play(5), 3);
        CHECK.due("where is over", x.where(), -1);
        CHECK.due("the fault is kept", x.fault(), 1);
        CHECK.refused("a number", x, x.game(1), 2);
        CHECK.due("the fault is kept still", x.fault(), 1);
        CHECK.due("where only of a fault", x.where(), -1);
        CHECK.due("marks stay", x.size(7), 1);
        x.start(77);
        Check.read(x, YARD + VERSE + ONE + ANN);
        CHECK.due("no fault", x.fault(), 0);
        CHECK.due("no marks", x.size(7), 0);
        CHECK.due("no films", x.size(8), 0);
        CHECK.refused("no stops", x, x.span(0, true), 6);
        CHECK.due("seed 0", x.size(5), 0);
        CHECK.due("from the line", x.play(5), 0);
        Check.feed(x, YARD + VERSE + ONE + ANN + "?");
        CHECK.due("only the first bytes", x.game((YARD + VERSE + ONE + ANN).length()), 1);
    }
}
