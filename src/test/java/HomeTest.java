/** Promises 37 to 43 and 45 to 47: home, starts, gravel, what is seen. */
public final class HomeTest {
    private static final Check CHECK = new Check();
    private static final String TEXT = "yard long 8 lanes 3 runs 2;verse 3,2 5;one turns 20 looks 7 eye 3 sees 10;"
        + "gravel lane 1 from 3 to 4 loud 7;gravel lane 1 from 4 to 6 loud 5;"
        + "creeper a lane 0 pace 5 wobble 40 tall 110 expects 90 brave;"
        + "creeper b lane 1 pace 4 wobble 100 tall 120 expects 0 safe 2;"
        + "creeper c lane 1 pace 20 wobble 50 tall 130 expects 10 sly 3";

    public static void main(String[] args) {
        refusals();
        running();
        starts();
        laying();
        sizes();
        troubleIsKept();
        wellCalls();
        CHECK.end();
    }

    private static void refusals() {
        StillYard x = new StillYard();
        CHECK.refused("home", x, x.home(0, 0), 1);
        CHECK.refused("far", x, x.far(0), 1);
        CHECK.refused("fair", x, x.fair(), 1);
        CHECK.refused("from", x, x.from(0), 1);
        CHECK.refused("lay", x, x.lay(0), 1);
        CHECK.refused("heard", x, x.heard(0), 1);
        CHECK.refused("loud", x, x.loud(0, 1), 1);
        x = Check.yard(TEXT);
        CHECK.refused("home of none", x, x.home(3, 9), 1);
        CHECK.refused("home from 9", x, x.home(0, 9), 2);
        CHECK.refused("home from -1", x, x.home(0, -1), 2);
        CHECK.refused("far of none", x, x.far(-1), 1);
        CHECK.refused("from of none", x, x.from(3), 1);
        CHECK.refused("lay of 0", x, x.lay(0), 2);
        CHECK.refused("lay of 9", x, x.lay(9), 2);
        CHECK.refused("heard of 0", x, x.heard(0), 2);
        CHECK.refused("heard of 9", x, x.heard(9), 2);
        int[][] cells = {{-1, 1}, {3, 1}, {0, 0}, {0, 9}, {1, -1}};
        for (int[] cell : cells) {
            CHECK.refused("loud", x, x.loud(cell[0], cell[1]), 1);
        }
    }

    /** He needs 16; a creeper of pace 5 from 6 needs 15, from 7 needs 17.5, which is 18. */
    private static void running() {
        StillYard x = Check.yard(TEXT);
        CHECK.due("a from 6", x.home(0, 6), 0);
        CHECK.due("a from 7", x.home(0, 7), 1);
        CHECK.due("a far", x.far(0), 6);
        CHECK.due("b from the wall needs 16", x.home(1, 8), 0);
        CHECK.due("b far", x.far(1), 8);
        CHECK.due("c from 1", x.home(2, 1), 0);
        CHECK.due("c from 2", x.home(2, 2), 1);
        CHECK.due("c far", x.far(2), 1);
        x = Check.yard(TEXT.replace("long 8", "long 7").replace("runs 2", "runs 1").replace("pace 5", "pace 3"));
        CHECK.due("a pace 3 from 4 needs 6", x.home(0, 4), 0);
        CHECK.due("a pace 3 from 5 needs 7.5, upwards", x.home(0, 5), 1);
    }

    private static void starts() {
        StillYard x = Check.yard(TEXT);
        CHECK.due("20 each", x.fair(), 0);
        CHECK.due("a", x.from(0), 4);
        CHECK.due("b", x.from(1), 3);
        CHECK.due("c", x.from(2), 7);
        x.bring(0, 5);
        CHECK.due("the same from anywhere", x.from(0), 4);
        x = Check.yard(TEXT.replace("long 8", "long 6").replace("pace 20", "pace 4").replace("pace 5", "pace 4"));
        CHECK.due("all alike", x.fair(), 0);
        CHECK.due("the least sum", x.from(0) + x.from(1) + x.from(2), 0);
        x = Check.yard(TEXT.replace("long 8", "long 40").replace("pace 20", "pace 1").replace("pace 5", "pace 1"));
        CHECK.due("no further than 7", x.fair(), 4 * 33 - 40);
        CHECK.due("b there", x.from(1), 7);
        CHECK.due("a on the line", x.from(0) + x.from(2), 0);
    }

    private static void laying() {
        StillYard x = Check.yard(TEXT);
        CHECK.due("two step on cells 1 and 2", x.lay(2), 101);
        CHECK.due("heard", x.heard(2), 4);
        CHECK.due("eight cells: one in lane 0, two on four in lane 1", x.lay(8), 1);
        CHECK.due("heard", x.heard(8), 8);
        x.bring(2, 2);
        CHECK.due("cells 7 and 8 now", x.lay(2), 107);
        CHECK.due("heard", x.heard(2), 4);
        x.bring(1, 2);
        x.bring(0, 3);
        CHECK.due("from the first best cell", x.lay(1), 107);
        CHECK.due("three cells", x.lay(3), 106);
        CHECK.due("heard", x.heard(3), 4);
        x = Check.yard(TEXT.replace("from 3 to 4 loud 7", "from 1 to 8 loud 1").replace("lane 0", "lane 1"));
        CHECK.due("nothing to hear", x.heard(1), 0);
        CHECK.due("the first of all", x.lay(1), 1);
        x = Check.yard(TEXT);
        int[] louds = {0, 0, 7, 7, 5, 5, 0, 0};
        for (int cell = 1; cell <= 8; cell++) {
            CHECK.due("loud 1 " + cell, x.loud(1, cell), louds[cell - 1]);
            CHECK.due("loud 2 " + cell, x.loud(2, cell), 0);
        }
        CHECK.due("no trouble", x.trouble(), 0);
    }

    private static void sizes() {
        StillYard x = new StillYard();
        for (int what = 0; what <= 10; what++) {
            CHECK.due("no size " + what, x.size(what), 0);
        }
        CHECK.due("no creeper", x.creeper(0, 0), -1);
        x = Check.yard(TEXT);
        x.feed(0, 0, 0, 0, 0);
        x.start(123);
        x.mark();
        x.film(0, true, true);
        x.film(0, true, true);
        int[] sizes = {8, 3, 2, 2, 3, 123, 20, 1, 2, 10, 2};
        for (int what = 0; what < sizes.length; what++) {
            CHECK.due("size " + what, x.size(what), sizes[what]);
        }
        CHECK.due("size -1", x.size(-1), -1);
        CHECK.due("size 11", x.size(11), -1);
        int[][] rows = {{0, 5, 40, 110, 90, 0, 0}, {1, 4, 100, 120, 0, 1, 2}, {1, 20, 50, 130, 10, 2, 3}};
        for (int c = 0; c < 3; c++) {
            for (int what = 0; what < 7; what++) {
                CHECK.due("creeper " + c + " " + what, x.creeper(c, what), rows[c][what]);
            }
            CHECK.due("creeper's -1", x.creeper(c, -1), -1);
            CHECK.due("creeper's 7", x.creeper(c, 7), -1);
        }
        CHECK.due("creeper -1", x.creeper(-1, 0), -1);
        CHECK.due("creeper 3", x.creeper(3, 0), -1);
    }

    private static void troubleIsKept() {
        StillYard x = Check.yard(TEXT);
        CHECK.refused("none such", x, x.law(9), 1);
        x.feed(1, 2, 3, 4, 5);
        x.size(99);
        x.creeper(9, 9);
        x.fault();
        x.where();
        x.led(0);
        CHECK.due("calls without a number leave it", x.trouble(), 1);
        CHECK.due("trouble leaves it too", x.trouble(), 1);
        endsTrouble(x, x.game(-5), x.about(0, 0));
    }

    /** Every call that may be refused ends the trouble of the one ahead of it, if it goes well. */
    private static void wellCalls() {
        StillYard x = Check.yard(TEXT);
        for (int what = 0; what < 8; what++) {
            endsTrouble(x, x.law(9), x.play(what));
        }
        for (int what = 0; what < 6; what++) {
            endsTrouble(x, x.law(9), x.about(0, what));
        }
        endsTrouble(x, x.law(9), x.start(5) ? 1 : 0);
        endsTrouble(x, x.law(9), x.tenths(1));
        endsTrouble(x, x.law(9), x.round());
        endsTrouble(x, x.law(9), x.bring(0, 1) ? 1 : 0);
        endsTrouble(x, x.law(9), x.mark());
        endsTrouble(x, x.law(9), x.back(0) ? 1 : 0);
        endsTrouble(x, x.law(9), x.behind(0));
        endsTrouble(x, x.law(9), x.ways());
        endsTrouble(x, x.law(9), x.risk(0, 0, 0));
        endsTrouble(x, x.law(9), x.gain(0, 0, 0, true));
        endsTrouble(x, x.law(9), x.best(0, 0, true));
        endsTrouble(x, x.law(9), x.worth(0, 0));
        endsTrouble(x, x.law(9), x.rests(0, 0));
        endsTrouble(x, x.law(9), x.rest(0, 0, 0));
        endsTrouble(x, x.law(9), x.watch());
        endsTrouble(x, x.law(9), x.both(0));
        endsTrouble(x, x.law(9), x.wins(0, 1, 1));
        endsTrouble(x, x.law(9), x.lasts(1, 1));
        endsTrouble(x, x.law(9), x.sent(1, 1));
        endsTrouble(x, x.law(9), x.looking(1, 1));
        endsTrouble(x, x.law(9), x.film(0, true, true));
        endsTrouble(x, x.law(9), x.law(0));
        endsTrouble(x, x.law(9), x.says(0, true));
        endsTrouble(x, x.law(9), x.off());
        endsTrouble(x, x.law(9), x.stop(0, true));
        endsTrouble(x, x.law(9), x.span(0, true));
        endsTrouble(x, x.law(9), x.fits(0));
        endsTrouble(x, x.law(9), x.home(0, 0));
        endsTrouble(x, x.law(9), x.far(0));
        endsTrouble(x, x.law(9), x.fair());
        endsTrouble(x, x.law(9), x.from(0));
        endsTrouble(x, x.law(9), x.lay(1));
        endsTrouble(x, x.law(9), x.heard(1));
        endsTrouble(x, x.law(9), x.loud(0, 1));
        x = Check.yard(TEXT.replace("looks 7", "looks 9").replace("expects 90", "expects 100"));
        x.round();
        endsTrouble(x, x.law(9), x.often(0));
        endsTrouble(x, x.law(9), x.right(0) ? 1 : 0);
        Check.feed(x, TEXT);
        endsTrouble(x, x.law(9), x.game(TEXT.length()));
    }

    /** The answers come from left to right: the first one refused, the second one well. */
    private static void endsTrouble(StillYard x, long refused, long well) {
        CHECK.due("refused", refused, -1);
        CHECK.due("the trouble is over behind " + well, x.trouble(), 0);
    }
}
