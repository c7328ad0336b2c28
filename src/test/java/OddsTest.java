/** Promises 16 to 29: odds, by numbers worked out by hand, their edges and refusals. */
public final class OddsTest {
    private static final Check CHECK = new Check();
    private static final String TEXT = "yard long 10 lanes 2 runs 2;verse 3,2,5;one turns 20,50 looks 2 eye 1 sees 10;"
        + "creeper a lane 0 pace 2 wobble 40 tall 100 expects 100 brave;"
        + "creeper b lane 0 pace 4 wobble 100 tall 100 expects 0 safe 2;"
        + "creeper c lane 1 pace 3 wobble 60 tall 100 expects 0 sly 1";

    public static void main(String[] args) {
        withoutGame();
        refusals();
        waysToTurn();
        risksAndGains();
        bestAndWorth();
        pairs();
        watching();
        playsToCome();
        CHECK.end();
    }

    private static void withoutGame() {
        StillYard x = new StillYard();
        CHECK.refused("behind", x, x.behind(0), 1);
        CHECK.refused("ways", x, x.ways(), 1);
        CHECK.refused("risk", x, x.risk(0, 0, 0), 1);
        CHECK.due("gain", x.gain(0, 0, 0, false), Long.MIN_VALUE);
        CHECK.due("gain's trouble", x.trouble(), 1);
        CHECK.refused("best", x, x.best(0, 0, false), 1);
        CHECK.refused("worth", x, x.worth(0, 0), 1);
        CHECK.refused("rests", x, x.rests(0, 0), 1);
        CHECK.refused("rest", x, x.rest(0, 0, 0), 1);
        CHECK.refused("watch", x, x.watch(), 1);
        CHECK.refused("both", x, x.both(-1), 1);
        CHECK.refused("wins", x, x.wins(0, 0, 0), 1);
        CHECK.refused("lasts", x, x.lasts(0, 0), 1);
        CHECK.refused("sent", x, x.sent(0, 0), 1);
        CHECK.refused("looking", x, x.looking(0, 0), 1);
    }

    private static void refusals() {
        StillYard x = Check.yard(TEXT);
        CHECK.refused("behind -1", x, x.behind(-1), 1);
        CHECK.refused("behind 3", x, x.behind(3), 1);
        CHECK.refused("risk of none", x, x.risk(3, 10, 0), 1);
        CHECK.refused("risk at the wall", x, x.risk(0, 10, 0), 2);
        CHECK.refused("risk from -1", x, x.risk(0, -1, 0), 2);
        CHECK.refused("risk for 11", x, x.risk(0, 0, 11), 2);
        CHECK.refused("risk for -1", x, x.risk(0, 0, -1), 2);
        int[][] wrong = {{3, 0, 0, 1}, {-1, 0, 0, 1}, {0, 10, 0, 2}, {0, -1, 0, 2}, {0, 0, 11, 2}, {0, 0, -1, 2}};
        for (int[] w : wrong) {
            CHECK.due("gain refused", x.gain(w[0], w[1], w[2], true), Long.MIN_VALUE);
            CHECK.due("gain's trouble", x.trouble(), w[3]);
        }
        CHECK.refused("best of none", x, x.best(3, 10, true), 1);
        CHECK.refused("best at the wall", x, x.best(0, 10, true), 2);
        CHECK.refused("worth of none", x, x.worth(-1, 0), 1);
        CHECK.refused("worth from -1", x, x.worth(0, -1), 2);
        CHECK.refused("rests of none", x, x.rests(3, 0), 1);
        CHECK.refused("rests at the wall", x, x.rests(0, 10), 2);
        CHECK.refused("rest of none", x, x.rest(3, 0, 0), 1);
        CHECK.refused("rest at the wall", x, x.rest(0, 10, 0), 2);
        CHECK.refused("rest -1", x, x.rest(0, 0, -1), 1);
        CHECK.refused("rest 25", x, x.rest(0, 0, 25), 1);
        CHECK.refused("both -1", x, x.both(-1), 2);
        CHECK.refused("both 4", x, x.both(4), 2);
        CHECK.refused("wins of none", x, x.wins(3, 0, 1), 1);
        int[][] plays = {{0, 1}, {21, 1}, {1, 0}, {1, 1000}, {-1, -1}};
        for (int[] p : plays) {
            CHECK.refused("wins", x, x.wins(0, p[0], p[1]), 2);
            CHECK.refused("lasts", x, x.lasts(p[0], p[1]), 2);
            CHECK.refused("sent", x, x.sent(p[0], p[1]), 2);
            CHECK.refused("looking", x, x.looking(p[0], p[1]), 2);
        }
        CHECK.due("at all bounds", x.lasts(20, 1), 20);
        CHECK.due("no trouble", x.trouble(), 0);
    }

    private static void waysToTurn() {
        StillYard x = Check.yard(TEXT);
        CHECK.due("ways", x.ways(), 10000);
        CHECK.due("behind 0", x.behind(0), 2000);
        CHECK.due("behind 1", x.behind(1), 4000);
        CHECK.due("behind 2", x.behind(2), 4000);
        CHECK.due("both 0", x.both(0), 100000000);
        CHECK.due("both 1", x.both(1), 64000000);
        CHECK.due("both 2", x.both(2), 16000000);
        CHECK.due("both 3", x.both(3), 0);
        x = Check.yard("yard long 10 lanes 1 runs 2;verse 3,2,5,1,1;one turns 0,100,7,0 looks 1 eye 1 sees 10;"
            + "gravel lane 0 from 1 to 9 loud 99;creeper a lane 0 pace 2 wobble 40 tall 100 expects 100 brave");
        CHECK.due("five parts", x.ways(), 100000000);
        CHECK.due("never", x.behind(0), 0);
        CHECK.due("for sure, whatever gravel", x.behind(1), 100000000);
        CHECK.due("behind that", x.behind(4), 0);
        CHECK.due("the most", x.both(1), 10000000000000000L);
    }

    /** a: 3 tenths to 1 and 1 of 2, which is 50; 5 to 2 and 1 of 2; 10 to 5. What is needed from 0: 10 and 9, 10 and 8. */
    private static void risksAndGains() {
        StillYard x = Check.yard(TEXT);
        CHECK.due("a all the way", x.risk(0, 0, 10), 40 * 6000);
        CHECK.due("a up to the first end", x.risk(0, 0, 3), 0);
        CHECK.due("a beyond it", x.risk(0, 0, 4), 40 * 2000);
        CHECK.due("a all the way, gain", x.gain(0, 0, 10, false), 2000 * 60 + 4000 * 120 + 4000 * 500);
        CHECK.due("a hidden", x.gain(0, 0, 10, true), 2000 * 100 + 4000 * 200 + 4000 * 500);
        CHECK.due("a four tenths", x.gain(0, 0, 4, false), 2000 * 60 + 8000 * 200);
        CHECK.due("a nothing", x.gain(0, 5, 0, false), 0);
        CHECK.due("b loses all", x.gain(1, 8, 10, false), 2000 * -800 + 4000 * -800 + 4000 * 200);
        CHECK.due("b at risk twice", x.risk(1, 8, 10), 2000 * 100 + 4000 * 100);
        CHECK.due("c's rest of 2 of 3 is 66", x.risk(2, 0, 10), 4000 * 60);
        x = Check.yard(TEXT.replace("sees 10", "sees 57"));
        CHECK.due("66 of 66", x.risk(2, 0, 10), 4000 * 60);
        x = Check.yard(TEXT.replace("sees 10", "sees 58"));
        CHECK.due("66 of 67", x.risk(2, 0, 10), 0);
    }

    private static void bestAndWorth() {
        StillYard x = Check.yard("yard long 4 lanes 1 runs 1;verse 4,6;one turns 50 looks 1 eye 1 sees 0;"
            + "creeper a lane 0 pace 3 wobble 100 tall 100 expects 0 brave;"
            + "creeper b lane 0 pace 20 wobble 100 tall 100 expects 0 brave;"
            + "creeper c lane 0 pace 3 wobble 0 tall 100 expects 0 brave");
        CHECK.due("a to the first end gains 1", x.gain(0, 0, 4, false), 100 * 100);
        CHECK.due("a on to 9 gains 0 or 3", x.gain(0, 0, 9, false), 50 * 300);
        CHECK.due("a best", x.best(0, 0, false), 9);
        CHECK.due("a best hidden", x.best(0, 0, true), 9);
        CHECK.due("worth", x.worth(0, 0), 50 * 100);
        CHECK.due("b never comes on: the first", x.best(1, 2, false), 0);
        CHECK.due("worth nothing", x.worth(1, 2), 0);
        CHECK.due("from 3 three tenths are enough", x.best(0, 3, false), 3);
        CHECK.due("c needn't be hidden", x.worth(2, 0), 0);
    }

    private static void pairs() {
        StillYard x = Check.yard("yard long 30 lanes 1 runs 1;verse 2,2;one turns 50 looks 1 eye 1 sees 0;"
            + "creeper a lane 0 pace 2 wobble 100 tall 100 expects 0 brave;"
            + "creeper b lane 0 pace 20 wobble 0 tall 100 expects 0 brave");
        CHECK.due("a from 0", x.rests(0, 0), 2);
        CHECK.due("he behind the first, it stands there", x.rest(0, 0, 0), 0);
        CHECK.due("or goes on, its foot down", x.rest(0, 0, 1), 1);
        CHECK.due("b: all alike", x.rests(1, 0), 4);
        int[] all = {0, 1, 10, 11};
        for (int i = 0; i < 4; i++) {
            CHECK.due("b " + i, x.rest(1, 0, i), all[i]);
        }
        CHECK.refused("b 4", x, x.rest(1, 0, 4), 1);
        x = Check.yard("yard long 4 lanes 1 runs 1;verse 3,1;one turns 50 looks 1 eye 1 sees 0;"
            + "creeper a lane 0 pace 2 wobble 100 tall 100 expects 0 brave");
        CHECK.due("he waits for none", x.rests(0, 0), 1);
        CHECK.due("only the first, standing", x.rest(0, 0, 0), 0);
    }

    private static void watching() {
        StillYard x = Check.yard(TEXT);
        CHECK.due("a risks 240000, b 200000, c 0", x.watch(), 3);
        x.bring(0, 9);
        x.bring(2, 9);
        CHECK.due("from there", x.watch(), watchBySums(x));
        x = Check.yard(TEXT.replace("looks 2", "looks 9"));
        CHECK.due("all", x.watch(), 7);
        x = Check.yard(TEXT.replace("eye 1", "eye 3"));
        CHECK.due("none", x.watch(), 0);
        x = Check.yard(TEXT.replace("wobble 40", "wobble 0").replace("wobble 100", "wobble 0").replace("looks 2", "looks 1"));
        CHECK.due("of like ones the least", x.watch(), 1);
    }

    /** b goes to the end of the second part, c the first part's tenths but one. */
    private static int watchBySums(StillYard x) {
        long[] risks = {x.risk(0, 9, 10), x.risk(1, 0, 5), x.risk(2, 9, 2)};
        int best = 3;
        int[] sets = {5, 6};
        for (int set : sets) {
            best = sum(risks, set) > sum(risks, best) ? set : best;
        }
        return best;
    }

    private static long sum(long[] risks, int set) {
        long sum = 0;
        for (int i = 0; i < risks.length; i++) {
            sum += (set >> i & 1) == 1 ? risks[i] : 0;
        }
        return sum;
    }

    private static void playsToCome() {
        StillYard x = Check.yard("yard long 4 lanes 1 runs 1;verse 2,4;one turns 50 looks 1 eye 1 sees 0;"
            + "creeper a lane 0 pace 1 wobble 0 tall 60 expects 100 brave;"
            + "creeper b lane 0 pace 2 wobble 0 tall 60 expects 0 brave");
        x.start(65535);
        CHECK.due("seed 65535 draws 65461: it goes on", x.wins(0, 1, 4), 1);
        CHECK.due("its tenths", x.lasts(1, 4), 4);
        x.start(1);
        CHECK.due("seed 1 draws 149: turned", x.wins(0, 1, 4), 0);
        CHECK.due("its tenths", x.lasts(1, 3), 3);
        CHECK.due("sent one", x.sent(1, 2), 1);
        CHECK.due("nobody before that", x.sent(1, 1), 0);
        int turned = 0;
        for (int i = 0; i < 20; i++) {
            int seed = (65530 + i) % 65537;
            turned += (75 * seed + 74) % 65537 % 100 < 50 ? 1 : 0;
        }
        x.start(65530);
        CHECK.due("round the seeds", x.wins(0, 20, 4), 20 - turned);
        CHECK.due("nobody else touches", x.wins(1, 20, 4), 0);
        CHECK.due("looked at nobody all touch, at one some", x.looking(20, 4), 1);
        x.tenths(2);
        CHECK.due("the play stays", x.play(5), 2);
    }
}
