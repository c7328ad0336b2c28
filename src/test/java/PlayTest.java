import java.util.NoSuchElementException;

/** Promises 6 to 15 and 44: the play. */
public final class PlayTest {
    private static final Check CHECK = new Check();

    public static void main(String[] args) {
        troubles();
        tenthsAndParts();
        waysOfCreepers();
        feet();
        feetDown();
        feetKept();
        lookedAt();
        gravel();
        draws();
        touching();
        wrongedAndRight();
        marks();
        order();
        CHECK.end();
    }

    private static String game(int length, String verse, String one, String... creepers) {
        StringBuilder text = new StringBuilder("yard long " + length + " lanes 3 runs 1;verse " + verse + ";one " + one);
        for (String creeper : creepers) {
            text.append(";").append(creeper);
        }
        return text.toString();
    }

    private static String creeper(String name, int lane, int pace, int wobble, int tall, int expects, String way) {
        return "creeper " + name + " lane " + lane + " pace " + pace + " wobble " + wobble + " tall " + tall
            + " expects " + expects + " " + way;
    }

    private static void troubles() {
        StillYard x = new StillYard();
        CHECK.denied("start", x, x.start(-1), 1);
        CHECK.refused("tenths", x, x.tenths(0), 1);
        CHECK.refused("round", x, x.round(), 1);
        CHECK.denied("bring", x, x.bring(0, -1), 1);
        CHECK.denied("right", x, x.right(0), 1);
        CHECK.refused("about", x, x.about(0, 0), 1);
        CHECK.refused("play", x, x.play(0), 1);
        CHECK.refused("often", x, x.often(0), 1);
        CHECK.refused("mark", x, x.mark(), 1);
        CHECK.denied("back", x, x.back(0), 1);
        x = Check.yard(game(4, "20", "looks 1 eye 1 sees 0", creeper("a", 0, 1, 0, 60, 0, "brave")));
        CHECK.denied("start -1", x, x.start(-1), 2);
        CHECK.denied("start 65537", x, x.start(65537), 2);
        CHECK.due("start 65536", x.start(65536), true);
        CHECK.due("its seed", x.size(5), 65536);
        CHECK.refused("tenths 0", x, x.tenths(0), 2);
        CHECK.refused("tenths 101", x, x.tenths(101), 2);
        CHECK.denied("bring of none", x, x.bring(1, 0), 1);
        CHECK.denied("bring of -1", x, x.bring(-1, 9), 1);
        CHECK.denied("bring to the wall", x, x.bring(0, 4), 2);
        CHECK.denied("bring to -1", x, x.bring(0, -1), 2);
        CHECK.denied("right of none", x, x.right(1), 1);
        CHECK.denied("right of one not wronged", x, x.right(0), 5);
        CHECK.refused("about -1", x, x.about(0, -1), 1);
        CHECK.refused("about 6", x, x.about(0, 6), 1);
        CHECK.refused("play -1", x, x.play(-1), 1);
        CHECK.refused("play 8", x, x.play(8), 1);
        CHECK.refused("often", x, x.often(0), 6);
        CHECK.refused("often of none", x, x.often(1), 1);
        CHECK.denied("back", x, x.back(-1), 1);
        CHECK.due("till it is over", x.tenths(100), 4);
        CHECK.due("no trouble", x.trouble(), 0);
        CHECK.refused("tenths when over", x, x.tenths(1), 6);
        CHECK.refused("a number ahead of it", x, x.tenths(0), 2);
        CHECK.refused("round when over", x, x.round(), 6);
        CHECK.denied("bring when over", x, x.bring(0, 1), 6);
        CHECK.denied("bring beyond when over", x, x.bring(0, 4), 2);
        CHECK.denied("right when over", x, x.right(0), 6);
        CHECK.due("goes when over", x.about(0, 5), 0);
        CHECK.due("nobody sent back", x.start(0), true);
        CHECK.due("begins again", x.about(0, 0) + x.play(5), 0);
    }

    private static void tenthsAndParts() {
        StillYard x = Check.yard(game(40, "2 3,4,5 1", "turns 0,0 looks 1 eye 1 sees 100",
            creeper("a", 0, 7, 0, 60, 0, "brave")));
        int[] parts = {0, 0, 0, 0, 0, 1, 1, 1, 1, 2, 2, 2, 2, 2, 2, 0};
        int[] syllables = {0, 0, 1, 1, 1, 0, 0, 0, 0, 0, 0, 0, 0, 0, 1, 0};
        int[] tenths = {0, 1, 0, 1, 2, 0, 1, 2, 3, 0, 1, 2, 3, 4, 0, 0};
        for (int t = 0; t < parts.length; t++) {
            CHECK.due("part behind " + t, x.play(0), parts[t]);
            CHECK.due("syllable behind " + t, x.play(1), syllables[t]);
            CHECK.due("tenths behind " + t, x.play(2), tenths[t]);
            CHECK.due("all tenths behind " + t, x.play(5), t);
            CHECK.due("looks behind " + t, x.play(4), t == 15 ? 1 : 0);
            CHECK.due("place behind " + t, x.about(0, 0), t / 7);
            CHECK.due("into behind " + t, x.about(0, 1), t == 15 ? 0 : t % 7);
            x.tenths(1);
        }
        CHECK.due("round", x.round(), 1);
        CHECK.due("to the end of the verse", x.play(5), 30);
    }

    private static void waysOfCreepers() {
        StillYard x = Check.yard(game(40, "3,4,5", "turns 0,0 looks 1 eye 20 sees 100",
            creeper("a", 0, 1, 0, 60, 0, "brave"), creeper("b", 0, 1, 0, 60, 0, "safe 2"),
            creeper("c", 0, 1, 0, 60, 0, "safe 5"), creeper("d", 0, 1, 0, 60, 0, "sly 3"),
            creeper("e", 0, 1, 0, 60, 0, "sly 1")));
        String[] goes = {"111111111111", "111111100000", "111111111111", "000100011000", "110111011110"};
        for (int t = 0; t < 12; t++) {
            for (int c = 0; c < 5; c++) {
                CHECK.due("goes " + c + " in " + t, x.about(c, 5), goes[c].charAt(t) - '0');
            }
            x.tenths(1);
        }
        int[] places = {12, 7, 12, 3, 9};
        for (int c = 0; c < 5; c++) {
            CHECK.due("place of " + c, x.about(c, 0), places[c]);
            CHECK.due("unseen " + c, x.about(c, 2), 3);
        }
    }

    /** One looks at all; places are 1 of 20 behind three tenths, so 19 are needed beyond what he sees. */
    private static void feet() {
        StillYard x = Check.yard(game(20, "3", "looks 9 eye 1 sees 31",
            creeper("a", 0, 2, 100, 60, 100, "brave"), creeper("b", 0, 2, 0, 60, 0, "brave"),
            creeper("c", 0, 3, 100, 60, 0, "brave"), creeper("d", 0, 2, 100, 60, 0, "sly 2"),
            creeper("e", 0, 4, 100, 60, 100, "brave")));
        CHECK.due("how ahead of a look", x.about(0, 2), -2);
        x.round();
        int[] places = {0, 1, 1, 0, 0};
        int[] intos = {0, 0, 0, 1, 0};
        int[] hows = {4, 0, 0, 0, 4};
        for (int c = 0; c < 5; c++) {
            CHECK.due("feet: place " + c, x.about(c, 0), places[c]);
            CHECK.due("feet: into " + c, x.about(c, 1), intos[c]);
            CHECK.due("feet: how " + c, x.about(c, 2), hows[c]);
            CHECK.due("feet: seen " + c, x.about(c, 3), hows[c] == 4 ? 1 : 0);
            CHECK.due("feet: wronged " + c, x.about(c, 4), 0);
        }
        x = Check.yard(game(20, "3", "looks 9 eye 1 sees 32", creeper("a", 0, 2, 100, 60, 0, "brave")));
        x.round();
        CHECK.due("wobbled, not seen", x.about(0, 2), 1);
        CHECK.due("it stays", x.about(0, 0), 1);
        CHECK.due("foot is down", x.about(0, 1), 0);
        CHECK.due("bring", x.bring(0, 19), true);
        CHECK.due("bring's place", x.about(0, 0), 19);
        x.tenths(1);
        x.bring(0, 3);
        CHECK.due("bring's into", x.about(0, 1), 0);
        CHECK.due("how stays", x.about(0, 2), 1);
    }

    /** A foot that is up comes down in the look, HIDDEN or not looked at or WOBBLING or none of these. */
    private static void feetDown() {
        StillYard x = Check.yard(game(20, "3", "looks 3 eye 1 sees 100",
            creeper("a", 0, 2, 0, 60, 0, "brave"), creeper("b", 0, 1, 0, 61, 0, "brave"),
            creeper("c", 1, 2, 0, 60, 100, "brave"), creeper("d", 1, 4, 0, 60, 0, "brave"),
            creeper("e", 2, 4, 100, 60, 0, "brave")));
        for (int round = 1; round <= 3; round++) {
            x.round();
            int[] places = {round, 3 * round, 0, 0, 0};
            int[] hows = {2, 0, 5, 3, 3};
            for (int c = 0; c < 5; c++) {
                CHECK.due("feet down: place " + c + " behind " + round, x.about(c, 0), places[c]);
                CHECK.due("feet down: into " + c + " behind " + round, x.about(c, 1), 0);
                CHECK.due("feet down: how " + c + " behind " + round, x.about(c, 2), hows[c]);
            }
        }
        CHECK.due("feet down: a draw for each foot, two for those looked at", x.size(5), seedBehind(0, 18));
    }

    /** Who doesn't go in the TENTH of the look draws nothing for its foot and keeps its INTO. */
    private static void feetKept() {
        StillYard x = Check.yard(game(20, "2,1", "turns 0 looks 1 eye 2 sees 0",
            creeper("a", 0, 3, 100, 60, 0, "safe 1"), creeper("b", 0, 4, 100, 60, 0, "sly 1"),
            creeper("c", 0, 5, 100, 60, 0, "brave")));
        int[] places = {0, 0, 0, 1, 0, 0, 2, 0, 0, 2, 1, 0};
        int[] intos = {2, 1, 0, 1, 2, 0, 0, 3, 0, 2, 0, 0};
        for (int i = 0; i < places.length; i++) {
            if (i % 3 == 0) {
                x.round();
            }
            CHECK.due("feet kept: place " + i, x.about(i % 3, 0), places[i]);
            CHECK.due("feet kept: into " + i, x.about(i % 3, 1), intos[i]);
        }
        CHECK.due("feet kept: a draw to turn and one foot each", x.size(5), seedBehind(0, 8));
    }

    private static void lookedAt() {
        StillYard x = Check.yard(game(40, "6", "looks 5 eye 2 sees 100",
            creeper("a", 0, 6, 0, 150, 0, "brave"), creeper("b", 0, 3, 0, 151, 0, "brave"),
            creeper("c", 0, 2, 0, 150, 0, "brave"), creeper("d", 1, 2, 0, 199, 0, "brave")));
        CHECK.due("so many", x.size(10), 2);
        x.round();
        int[] hows = {3, 3, 0, 0};
        for (int c = 0; c < 4; c++) {
            CHECK.due("looked at " + c, x.about(c, 2), hows[c]);
        }
        x = Check.yard(game(40, "6", "looks 20 eye 5 sees 100",
            creeper("a", 0, 6, 0, 150, 100, "brave"), creeper("b", 0, 3, 0, 151, 0, "brave"),
            creeper("c", 0, 2, 0, 151, 0, "brave"), creeper("d", 1, 1, 0, 199, 100, "brave")));
        x.round();
        int[] later = {2, 0, 0, 5};
        for (int c = 0; c < 4; c++) {
            CHECK.due("hidden or not " + c, x.about(c, 2), later[c]);
        }
        CHECK.due("the tall one went back behind the look", x.about(3, 0), 0);
        CHECK.due("two looked at draw", x.size(5), seedBehind(0, 3));
    }

    private static int seedBehind(int seed, int draws) {
        long s = seed;
        for (int i = 0; i < draws; i++) {
            s = (75 * s + 74) % 65537;
        }
        return (int) s;
    }

    private static void gravel() {
        String text = game(9, "2,20", "turns 1 looks 1 eye 1 sees 0", "gravel lane 0 from 2 to 3 loud 40",
            "gravel lane 0 from 1 to 2 loud 50", "gravel lane 1 from 1 to 1 loud 9",
            creeper("a", 0, 1, 0, 60, 0, "brave"), creeper("b", 1, 2, 0, 60, 0, "brave"),
            creeper("c", 2, 1, 0, 60, 0, "brave"));
        StillYard x = Check.yard(text);
        x.tenths(1);
        CHECK.due("a step", x.play(3), 50);
        x.tenths(1);
        CHECK.due("he turned", x.play(4), 1);
        CHECK.due("quiet again", x.play(3), 0);
        x = Check.yard(text.replace("turns 1", "turns 0").replace("loud 50", "loud 1").replace("loud 40", "loud 8"));
        x.start(1);
        x.tenths(2);
        CHECK.due("a draw of 49 is not below 18", x.play(4), 0);
        CHECK.due("loud together", x.play(3), 18);
        x.tenths(1);
        CHECK.due("to the last cell", x.play(3), 26);
        x.tenths(1);
        CHECK.due("behind it", x.play(3), 26);
        x.bring(0, 1);
        x.tenths(1);
        CHECK.due("brought there", x.play(3), 34);
    }

    private static void draws() {
        String text = game(40, "1,1,1", "turns 49,100 looks 1 eye 2 sees 0", creeper("a", 0, 20, 0, 60, 0, "brave"));
        StillYard x = Check.yard(text);
        x.start(1);
        CHECK.due("a draw of 149", x.round(), 1);
        CHECK.due("not below 49", x.play(5), 2);
        CHECK.due("two draws to turn, one of a foot", x.size(5), seedBehind(1, 3));
        x = Check.yard(text.replace("turns 49", "turns 50"));
        x.start(1);
        x.round();
        CHECK.due("below 50", x.play(5), 1);
        CHECK.due("a draw to turn, one of a foot", x.size(5), seedBehind(1, 2));
        x = Check.yard(text.replace("49,100", "0,0"));
        x.start(65536);
        x.round();
        CHECK.due("no draw behind the last part", x.size(5), seedBehind(65536, 3));
    }

    private static void touching() {
        StillYard x = Check.yard(game(4, "2 2,9", "turns 100 looks 9 eye 1 sees 0",
            creeper("a", 0, 3, 0, 60, 0, "brave"), creeper("b", 0, 1, 0, 60, 0, "brave"),
            creeper("c", 1, 1, 0, 60, 0, "brave"), creeper("d", 1, 20, 0, 60, 0, "brave")));
        CHECK.due("nobody touched", x.play(6), -2);
        CHECK.due("nobody is caught yet", x.play(7), 0);
        CHECK.due("over", x.round(), 2);
        CHECK.due("the first by lines", x.play(6), 1);
        CHECK.due("that part", x.play(0), 0);
        CHECK.due("its last syllable", x.play(1), 1);
        CHECK.due("all its tenths", x.play(2), 2);
        CHECK.due("no look", x.play(4), 0);
        CHECK.due("no draw", x.size(5), 0);
        CHECK.due("needs 2, 2, 2, 0 of 4", x.play(7), 0);
        x.start(0);
        x.bring(0, 3);
        x.bring(3, 1);
        x.round();
        CHECK.due("the first now", x.play(6), 0);
        CHECK.due("in a syllable", x.play(1), 1);
        CHECK.due("its tenths", x.play(2), 1);
        CHECK.due("needs 10 of 4", x.play(7), 8);
        x.start(0);
        x.bring(0, 3);
        x.bring(1, 2);
        x.bring(2, 2);
        x.bring(3, 3);
        x.tenths(2);
        CHECK.due("behind a syllable the next", x.play(1) * 10 + x.play(2), 10);
        CHECK.due("caught but for who touched", x.play(7), 9);
        CHECK.due("touched", x.play(6), 1);
        x = Check.yard(game(4, "2,4", "turns 0 looks 1 eye 2 sees 0", creeper("a", 0, 1, 0, 60, 0, "brave")));
        x.tenths(6);
        CHECK.due("over in the second part", x.play(0) * 100 + x.play(1) * 10 + x.play(2), 102);
    }

    private static void wrongedAndRight() {
        StillYard x = Check.yard(game(9, "3", "looks 9 eye 1 sees 0", creeper("a", 0, 1, 0, 60, 100, "brave"),
            creeper("b", 1, 2, 100, 60, 0, "brave")));
        x.round();
        CHECK.due("wronged", x.about(0, 2), 5);
        CHECK.due("the line", x.about(0, 0), 0);
        CHECK.due("once", x.about(0, 4), 1);
        CHECK.due("all of it", x.often(0), 100);
        CHECK.due("none of it", x.often(1), 0);
        x.tenths(1);
        CHECK.denied("one seen", x, x.right(1), 5);
        CHECK.due("right", x.right(0), true);
        CHECK.due("right's trouble", x.trouble(), 0);
        CHECK.due("right's into", x.about(0, 1), 0);
        CHECK.due("back there", x.about(0, 0), 3);
        CHECK.due("still", x.about(0, 2), 0);
        CHECK.due("no more", x.about(0, 4), 0);
        CHECK.denied("put right", x, x.right(0), 5);
        CHECK.refused("not sent back", x, x.often(0), 6);
        x.round();
        CHECK.due("again from 3", x.about(0, 2), 5);
        x.right(0);
        CHECK.due("again there", x.about(0, 0), 5);
        x = Check.yard(game(9, "3", "looks 9 eye 1 sees 0", creeper("a", 0, 2, 0, 60, 100, "brave")));
        x.round();
        CHECK.due("its foot is down", x.about(0, 1), 0);
        x.tenths(1);
        CHECK.due("a step begun from the line", x.about(0, 1), 1);
        x.right(0);
        CHECK.due("put right on both feet", x.about(0, 1), 0);
        CHECK.due("where it was", x.about(0, 0), 1);
        x = Check.yard(game(9, "2,3", "turns 50 looks 9 eye 1 sees 0", creeper("a", 0, 2, 50, 60, 70, "brave")));
        for (int i = 0; i < 12; i++) {
            x.round();
            int all = x.about(0, 3) + x.about(0, 4);
            CHECK.due("often", x.often(0), all == 0 ? -1 : x.about(0, 4) * 100 / all);
        }
    }

    private static void marks() {
        StillYard x = Check.yard(game(20, "2,3", "turns 50 looks 9 eye 3 sees 0",
            creeper("a", 0, 2, 50, 60, 70, "brave"), creeper("b", 1, 3, 50, 61, 70, "brave")));
        for (int i = 0; i < 3; i++) {
            CHECK.due("mark", x.mark(), i);
            x.tenths(3);
        }
        CHECK.refused("a fourth", x, x.mark(), 3);
        CHECK.due("three", x.size(7), 3);
        long[] first = state(x);
        for (int i = 2; i >= 0; i--) {
            CHECK.due("back", x.back(i), true);
            CHECK.due("as it was", x.play(5), 3 * i);
            x.tenths(9 - 3 * i);
            long[] again = state(x);
            for (int k = 0; k < first.length; k++) {
                CHECK.due("the same from mark " + i + " of " + k, again[k], first[k]);
            }
        }
        CHECK.denied("no such mark", x, x.back(3), 1);
        x.start(5);
        CHECK.due("marks stay", x.size(7), 3);
        CHECK.due("back behind a start", x.back(1), true);
        CHECK.due("there", x.play(5), 3);
    }

    private static long[] state(StillYard x) {
        long[] all = new long[19];
        for (int i = 0; i < 6; i++) {
            all[i] = x.about(0, i);
            all[6 + i] = x.about(1, i);
            all[12 + i] = x.play(i);
        }
        all[18] = x.size(5);
        return all;
    }

    private static void order() {
        StillYard x = Check.yard(game(20, "2,3", "turns 50 looks 9 eye 3 sees 0",
            creeper("a", 0, 2, 50, 60, 70, "brave"), creeper("b", 1, 3, 50, 61, 70, "brave"),
            creeper("c", 1, 3, 50, 61, 70, "brave"), creeper("d", 1, 3, 50, 61, 70, "brave")));
        CHECK.due("by lines", ledBy(x), 123);
        x.bring(2, 5);
        x.bring(3, 9);
        x.bring(1, 5);
        CHECK.due("nearest first", ledBy(x), 3120);
        CHECK.due("none at -1", throwsAt(x, -1), true);
        CHECK.due("none at 4", throwsAt(x, 4), true);
        CHECK.due("none without a game", throwsAt(new StillYard(), 0), true);
    }

    private static int ledBy(StillYard x) {
        return x.led(0) * 1000 + x.led(1) * 100 + x.led(2) * 10 + x.led(3);
    }

    private static boolean throwsAt(StillYard x, int i) {
        try {
            x.led(i);
            return false;
        } catch (NoSuchElementException e) {
            return true;
        }
    }
}
