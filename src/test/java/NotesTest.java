/** Promises 30 to 36: films and stops. */
public final class NotesTest {
    private static final Check CHECK = new Check();
    private static final String TEXT = "yard long 10 lanes 2 runs 2;verse 3,2,5;one turns 20,50 looks 2 eye 1 sees 10;"
        + "creeper a lane 0 pace 2 wobble 40 tall 100 expects 100 brave;"
        + "creeper b lane 0 pace 4 wobble 100 tall 100 expects 0 safe 2";

    public static void main(String[] args) {
        refusals();
        films();
        stops();
        CHECK.end();
    }

    private static void refusals() {
        StillYard x = new StillYard();
        CHECK.refused("film", x, x.film(0, true, true), 1);
        CHECK.refused("law", x, x.law(0), 1);
        CHECK.refused("says", x, x.says(0, true), 1);
        CHECK.refused("off", x, x.off(), 1);
        CHECK.refused("stop", x, x.stop(0, true), 1);
        CHECK.refused("span", x, x.span(0, true), 1);
        CHECK.refused("fits", x, x.fits(0), 1);
        x = Check.yard(TEXT);
        CHECK.refused("film of -1", x, x.film(-1, true, true), 1);
        CHECK.refused("film of the last", x, x.film(2, true, true), 1);
        CHECK.refused("law of -1", x, x.law(-1), 1);
        CHECK.refused("law of the last", x, x.law(2), 1);
        CHECK.refused("law without films", x, x.law(1), 6);
        CHECK.refused("says of the last", x, x.says(2, true), 1);
        CHECK.refused("says without films", x, x.says(1, true), 6);
        CHECK.due("off without films", x.off(), 0);
        CHECK.refused("stop of none", x, x.stop(2, true), 1);
        CHECK.refused("span of none", x, x.span(-1, true), 1);
        CHECK.refused("span without stops", x, x.span(1, true), 6);
        CHECK.refused("fits of none", x, x.fits(2), 1);
        CHECK.refused("fits without stops", x, x.fits(1), 6);
    }

    private static void films() {
        StillYard x = Check.yard(TEXT);
        CHECK.due("film 1", x.film(1, true, true), 1);
        CHECK.due("film 2", x.film(1, true, true), 2);
        CHECK.due("film 3", x.film(1, true, false), 3);
        CHECK.due("law 1", x.law(1), 66);
        CHECK.due("says 1 with shoulders", x.says(1, true), 66);
        CHECK.refused("says 1 without", x, x.says(1, false), 6);
        CHECK.refused("law 0", x, x.law(0), 6);
        CHECK.due("off 16", x.off(), 16);
        CHECK.due("film 4", x.film(0, false, false), 4);
        CHECK.due("law 0", x.law(0), 0);
        CHECK.due("says 0 without", x.says(0, false), 0);
        CHECK.due("off 16 and 20", x.off(), 36);
        for (int i = 5; i <= 30; i++) {
            CHECK.due("film " + i, x.film(0, i % 2 == 0, i % 3 == 0), i);
        }
        CHECK.refused("film 31", x, x.film(0, true, true), 3);
        CHECK.refused("film 31 of none", x, x.film(2, true, true), 1);
        CHECK.due("30 films", x.size(8), 30);
        CHECK.due("9 of 27", x.law(0), 33);
        CHECK.due("5 of 13", x.says(0, true), 38);
        CHECK.due("4 of 14", x.says(0, false), 28);
        StillYard y = Check.yard(TEXT.replace("3,2,5", "3,2,5,1,1").replace("20,50", "20,50,9,100"));
        for (int part = 0; part < 4; part++) {
            for (int i = 0; i <= part; i++) {
                y.film(part, i == 0, i > 0);
            }
        }
        int[] laws = {0, 50, 66, 75};
        for (int part = 0; part < 4; part++) {
            CHECK.due("law of " + part, y.law(part), laws[part]);
            CHECK.due("with shoulders", y.says(part, true), 0);
            CHECK.due("without", y.says(part, false), part == 0 ? -1 : 100);
        }
        CHECK.due("off 20, 0, 57 and 25", y.off(), 102);
        x.start(4);
        CHECK.due("films stay", x.size(8), 30);
    }

    private static void stops() {
        StillYard x = Check.yard(TEXT);
        CHECK.due("a stop", x.stop(0, false), 1);
        CHECK.due("least of none in 1", x.span(0, false), 0);
        CHECK.due("greatest of none in 1: at 95 still a twentieth", x.span(0, true), 95);
        CHECK.due("fits", x.fits(0), 1);
        CHECK.due("stops of one creeper", x.stop(1, true), 1);
        CHECK.due("least of one in 1", x.span(1, false), 5);
        CHECK.due("greatest of one in 1", x.span(1, true), 100);
        CHECK.due("100 fits", x.fits(1), 1);
        x.stop(1, false);
        CHECK.due("100 doesn't any more", x.fits(1), 0);
        for (int i = 2; i <= 9; i++) {
            CHECK.due("stop " + i, x.stop(0, false), i);
        }
        CHECK.refused("a tenth", x, x.stop(0, true), 3);
        CHECK.due("none in 9", x.span(0, true), 28);
        CHECK.due("40 is too much", x.fits(0), 0);
    }
}
