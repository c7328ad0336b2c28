import java.io.IOException;
import java.util.NoSuchElementException;

/** Terms II and promises 6 to 15 and 44: the boundary cases of the play. */
public final class PlayEdgesTest {
    public static void main(String[] args) throws IOException {
        Edges edges = new Edges();
        going(edges);
        turning(edges);
        looking(edges);
        running(edges);
        moves(edges);
        answers(edges);
        marks(edges);
        edges.end();
    }

    private static void going(Edges edges) {
        edges.of("Terms II", "A creeper has a PLACE, 0 (the line) up to long (the wall), and tenths INTO its step.",
            PlayEdgesTest::lineToWall);
        edges.of("Terms II", "if these are pace, it is a STEP: PLACE is 1 more, INTO 0.", PlayEdgesTest::steps);
        edges.of("Terms II", "brave always;", PlayEdgesTest::brave);
        edges.of("Terms II", "safe n in the first n PARTS;", PlayEdgesTest::safe);
        edges.of("Terms II", "sly n in tenths of a PART but its last n.", PlayEdgesTest::sly);
        edges.of("Terms II", "A STEP on gravel of its LANE (its PLACE from .. to, both too;", PlayEdgesTest::gravelBothTo);
        edges.of("Terms II", "of several the loudest) is HEARD: LOUD grows by loud.", PlayEdgesTest::loudest);
    }

    private static void turning(Edges edges) {
        edges.of("Terms II", "If one or more are at the wall behind a TENTH, it is TOUCHED (by the first such by LINES)",
            PlayEdgesTest::firstTouches);
        edges.of("Terms II", "the GAME is over. Else, if a PART ends with this TENTH:", PlayEdgesTest::touchedAheadOfATurn);
        edges.of("Terms II", "he TURNS behind the last one;", PlayEdgesTest::turnsBehindTheLast);
        edges.of("Terms II", "if a draw mod 100 is below its chance and LOUD together.", PlayEdgesTest::turnsBelow);
        edges.of("Terms II", "A draw: SEED becomes (75 times SEED and 74) mod 65,537.", PlayEdgesTest::drawsGoRound);
        edges.of("Terms II", "if it went in this TENTH and INTO is above 0, its foot is up:", PlayEdgesTest::feetUp);
        edges.of("Terms II", "if a draw mod 100 is below wobble,", PlayEdgesTest::wobblesBelow);
        edges.of("Terms II", "it WOBBLES by INTO times 100 by pace, downwards;", PlayEdgesTest::wobblesDownwards);
        edges.of("Terms II", "INTO is 0 then.", PlayEdgesTest::feetDown);
    }

    private static void looking(Edges edges) {
        edges.of("Terms II", "He LOOKS at looks by eye creepers, downwards,", PlayEdgesTest::looksByEye);
        edges.of("Terms II", "the greatest PLACES first, of like ones by LINES, one after the other:", PlayEdgesTest::greatestFirst);
        edges.of("Terms II", "it is HIDDEN if another one of its LANE has a greater PLACE and is taller;", PlayEdgesTest::hidden);
        edges.of("Terms II", "SEEN if it WOBBLES by no less than sees and (long less PLACE) together;", PlayEdgesTest::seenNoLess);
        edges.of("Terms II", "WRONGED if it doesn't WOBBLE, and a draw mod 100 is below expects.", PlayEdgesTest::wrongedBelow);
        edges.of("Terms II", "Who is SEEN or WRONGED goes back: PLACE 0 (behind all looks).", PlayEdgesTest::behindAllLooks);
        edges.of("Terms II", "Then THE VERSE is at its beginning, LOUD 0, INTO as it is.", PlayEdgesTest::behindALook);
        edges.of("Terms II", "HOW one stood in the latest look: 0 STILL, 1 it WOBBLED and wasn't SEEN, 2 HIDDEN, "
            + "3 he didn't look at it (UNSEEN), 4 SEEN, 5 WRONGED.", PlayEdgesTest::howTheyStood);
    }

    private static void running(Edges edges) {
        edges.of("Terms II", "RUN: a creeper needs PLACE times pace by 2, upwards, for all of it, he long times runs;",
            PlayEdgesTest::needsUpwards);
        edges.of("Terms II", "CAUGHT are those that need more, but not who TOUCHED.", PlayEdgesTest::needsMore);
        edges.of("Terms II", "MARKS: up to 3; each keeps all of the play and SEED as they are.", PlayEdgesTest::marksKeepAll);
    }

    private static void moves(Edges edges) {
        edges.of("Promise 6", "The play from its beginning (nobody was sent back); SEED: true;", PlayEdgesTest::startAgain);
        edges.of("Promise 6", "false: 1 (no GAME); 2 (0 .. 65,536).", PlayEdgesTest::startRefused);
        edges.of("Promise 7", "So many TENTHS (1 .. 100),", PlayEdgesTest::tenthsBounds);
        edges.of("Promise 7", "till it is over: how many there were.", PlayEdgesTest::tenthsTillOver);
        edges.of("Promise 7", "NONE: 1 (no GAME); 2; 6 (it is over).", PlayEdgesTest::tenthsRefused);
        edges.of("Promise 8", "TENTHS till he has looked, or it is over: 1 he looked, 2 it is over.", PlayEdgesTest::rounds);
        edges.of("Promise 8", "NONE: 1 (no GAME); 6.", PlayEdgesTest::roundRefused);
        edges.of("Promise 9", "A creeper comes to a PLACE (0 up to long less 1), INTO 0: true;", PlayEdgesTest::brought);
        edges.of("Promise 9", "false: 1; 2; 6 (it is over).", PlayEdgesTest::bringRefused);
        edges.of("Promise 10", "its PLACE is what it was in that look, INTO 0, HOW STILL, and it is WRONGED once less: true;",
            PlayEdgesTest::putRight);
        edges.of("Promise 10", "A creeper that was WRONGED in the latest look", PlayEdgesTest::latestLookOnly);
        edges.of("Promise 10", "false: 1; 6 (it is over); 5 (it wasn't, or is put right).", PlayEdgesTest::rightRefused);
    }

    private static void answers(Edges edges) {
        edges.of("Promise 11", "2 HOW (-2 ahead of any look)", PlayEdgesTest::aheadOfAnyLook);
        edges.of("Promise 11", "5 whether it GOES in the coming TENTH (0 if it is over).", PlayEdgesTest::comingTenth);
        edges.of("Promise 11", "NONE: 1.", PlayEdgesTest::aboutRefused);
        edges.of("Promise 12", "1 the syllable (behind its last tenth the next one)", PlayEdgesTest::nextSyllable);
        edges.of("Promise 12", "(TOUCHED with a PART's last tenth: that PART, its last syllable, all its tenths)",
            PlayEdgesTest::touchedWithTheLastTenth);
        edges.of("Promise 12", "3 LOUD, 4 looks so far, 5 TENTHS so far,", PlayEdgesTest::soFar);
        edges.of("Promise 12", "6 who TOUCHED (-2)", PlayEdgesTest::nobodyTouched);
        edges.of("Promise 12", "7 CAUGHT as bits (0 as long as it isn't over).", PlayEdgesTest::caughtWhenOver);
        edges.of("Promise 12", "NONE: 1 (no GAME, what).", PlayEdgesTest::playRefused);
        edges.of("Promise 13", "WRONGED of all who were sent back, in hundredths, downwards.", PlayEdgesTest::oftenDownwards);
        edges.of("Promise 13", "NONE: 1; 6 (it wasn't sent back).", PlayEdgesTest::oftenRefused);
    }

    private static void marks(Edges edges) {
        edges.of("Promise 14", "A MARK: its number, from 0 on.", PlayEdgesTest::markNumbers);
        edges.of("Promise 14", "NONE: 1 (no GAME); 3.", PlayEdgesTest::markRefused);
        edges.of("Promise 15", "The play is as it was by a MARK (all MARKS stay): true;", PlayEdgesTest::marksStay);
        edges.of("Promise 15", "false: 1.", PlayEdgesTest::backRefused);
        edges.of("Promise 44", "The i-th creeper by the order in which he would look at them now.", PlayEdgesTest::ledNow);
        edges.of("Promise 44", "NoSuchElementException if there is none such.", PlayEdgesTest::ledNone);
    }

    /** A GAME in one LANE of a verse with nothing to be afraid of: nobody is looked at. */
    private static StillYard quiet(int length, String verse, String turns, String... lines) {
        return Check.yard(Told.game(length, 1, 1, verse, turns + "looks 1 eye 2 sees 100", lines));
    }

    /** He looks at all. */
    private static StillYard watched(int length, String verse, int sees, String... creepers) {
        return Check.yard(Told.game(length, 2, 1, verse, "looks 9 eye 1 sees " + sees, creepers));
    }

    private static void stands(Check check, String what, StillYard x, int creeper, int place, int into) {
        check.due(what + ": PLACE of " + creeper, x.about(creeper, 0), place);
        check.due(what + ": INTO of " + creeper, x.about(creeper, 1), into);
    }

    private static void hows(Check check, String what, StillYard x, int... hows) {
        for (int c = 0; c < hows.length; c++) {
            check.due(what + ": HOW of " + c, x.about(c, 2), hows[c]);
        }
    }

    private static void said(Check check, String what, StillYard x, int part, int syllable, int tenths) {
        check.due(what + ": PART", x.play(0), part);
        check.due(what + ": syllable", x.play(1), syllable);
        check.due(what + ": tenths of it", x.play(2), tenths);
    }

    // ---- going

    private static void lineToWall(Check check) {
        StillYard x = quiet(4, "20", "", Told.steady("a", 0, 2, "brave"));
        stands(check, "at the line", x, 0, 0, 0);
        x.tenths(1);
        stands(check, "off the line", x, 0, 0, 1);
        x.tenths(6);
        stands(check, "ahead of the wall", x, 0, 3, 1);
        check.due("nobody touched", x.play(6), -2);
        x.tenths(1);
        stands(check, "at the wall", x, 0, 4, 0);
        check.due("touched", x.play(6), 0);
    }

    private static void steps(Check check) {
        StillYard x = quiet(40, "20 20", "", Told.steady("a", 0, 1, "brave"), Told.steady("b", 0, 20, "brave"),
            Told.steady("c", 0, 2, "brave"));
        int[][] due = {{1, 1, 0, 0, 1, 0, 1}, {2, 2, 0, 0, 2, 1, 0}, {19, 19, 0, 0, 19, 9, 1}, {20, 20, 0, 1, 0, 10, 0},
            {21, 21, 0, 1, 1, 10, 1}, {39, 39, 0, 1, 19, 19, 1}};
        for (int[] row : due) {
            x.tenths(row[0] - x.play(5));
            for (int c = 0; c < 3; c++) {
                stands(check, "behind " + row[0], x, c, row[1 + 2 * c], row[2 + 2 * c]);
            }
        }
    }

    private static void brave(Check check) {
        StillYard x = quiet(40, "1,1,1,1,1", "turns 0,0,0,0 ", Told.steady("a", 0, 1, "brave"));
        for (int t = 0; t <= 9; t++) {
            check.due("goes behind " + t, x.about(0, 5), 1);
            check.due("PLACE behind " + t, x.about(0, 0), t);
            x.tenths(1);
        }
    }

    private static void safe(Check check) {
        StillYard x = quiet(40, "2,1,3,1,2", "turns 0,0,0,0 ", Told.steady("a", 0, 1, "safe 1"), Told.steady("b", 0, 1, "safe 2"),
            Told.steady("c", 0, 1, "safe 4"), Told.steady("d", 0, 1, "safe 5"));
        goes(check, x, "110000000110", "111000000111", "111111100111", "111111111111");
        x = quiet(40, "3", "", Told.steady("a", 0, 1, "safe 1"), Told.steady("b", 0, 1, "safe 5"));
        goes(check, x, "1111", "1111");
    }

    private static void goes(Check check, StillYard x, String... tenths) {
        int[] gone = new int[tenths.length];
        for (int t = 0; t < tenths[0].length(); t++) {
            for (int c = 0; c < tenths.length; c++) {
                int due = tenths[c].charAt(t) - '0';
                check.due("goes " + c + " behind " + t, x.about(c, 5), due);
                check.due("PLACE " + c + " behind " + t, x.about(c, 0), gone[c]);
                gone[c] += due;
            }
            x.tenths(1);
        }
    }

    private static void sly(Check check) {
        StillYard x = quiet(40, "4,1 1,1", "turns 0,0 ", Told.steady("a", 0, 1, "sly 1"), Told.steady("b", 0, 1, "sly 2"),
            Told.steady("c", 0, 1, "sly 3"), Told.steady("d", 0, 1, "sly 4"), Told.steady("e", 0, 1, "sly 20"));
        goes(check, x, "11101001", "11000001", "10000001", "00000000", "00000000");
        x = quiet(40, "20,20 1", "turns 0 ", Told.steady("a", 0, 1, "sly 20"), Told.steady("b", 0, 1, "sly 19"));
        goes(check, x, "00000000000000000000100000000000000000000", "10000000000000000000110000000000000000000");
    }

    private static void gravelBothTo(Check check) {
        StillYard x = Check.yard(Told.game(9, 3, 1, "20", "looks 1 eye 2 sees 0", Told.gravel(0, 2, 3, 10), Told.gravel(2, 9, 9, 7),
            Told.gravel(2, 1, 1, 5), Told.steady("a", 0, 1, "brave"), Told.steady("b", 1, 2, "brave")));
        int[] louds = {0, 10, 20, 20};
        for (int t = 0; t < louds.length; t++) {
            x.tenths(1);
            check.due("LOUD behind " + (t + 1), x.play(3), louds[t]);
        }
        x = Check.yard(Told.game(9, 3, 1, "20", "looks 1 eye 2 sees 0", Told.gravel(2, 9, 9, 7), Told.gravel(2, 1, 1, 5),
            Told.steady("a", 2, 1, "brave")));
        x.tenths(1);
        check.due("the first cell", x.play(3), 5);
        x.tenths(8);
        check.due("the wall's cell", x.play(3), 12);
        check.due("touched", x.play(6), 0);
        x = quiet(9, "20", "", Told.gravel(0, 1, 9, 50), Told.steady("a", 0, 3, "brave"), Told.steady("b", 0, 3, "brave"));
        x.tenths(2);
        check.due("no STEP", x.play(3), 0);
        x.tenths(1);
        check.due("two STEPS", x.play(3), 100);
        x.bring(0, 5);
        check.due("who is brought is not HEARD", x.play(3), 100);
    }

    private static void loudest(Check check) {
        String[] gravels = {Told.gravel(0, 1, 3, 40), Told.gravel(0, 2, 4, 99), Told.gravel(0, 3, 5, 41)};
        StillYard x = quiet(9, "20", "", gravels[0], gravels[1], gravels[2], Told.steady("a", 0, 1, "brave"));
        int[] louds = {40, 139, 238, 337, 378, 378};
        for (int t = 0; t < louds.length; t++) {
            x.tenths(1);
            check.due("LOUD behind " + (t + 1), x.play(3), louds[t]);
        }
        x = quiet(9, "20", "", gravels[2], gravels[1], gravels[0], Told.steady("a", 0, 1, "brave"));
        x.tenths(5);
        check.due("told the other way about", x.play(3), 378);
    }

    // ---- turning

    private static void firstTouches(Check check) {
        StillYard x = quiet(4, "20", "", Told.steady("a", 0, 2, "brave"), Told.steady("b", 0, 1, "brave"), Told.steady("c", 0, 1, "brave"));
        check.due("tenths", x.tenths(100), 4);
        check.due("the first of two", x.play(6), 1);
        x.start(0);
        x.bring(2, 1);
        check.due("over", x.round(), 2);
        check.due("the one that is there", x.play(6), 2);
        check.due("a TENTH less", x.play(5), 3);
    }

    private static void touchedAheadOfATurn(Check check) {
        StillYard x = Check.yard(Told.game(4, 1, 1, "4", "looks 9 eye 1 sees 0", Told.creeper("a", 0, 1, 0, 60, 100, "brave"),
            Told.creeper("b", 0, 3, 100, 60, 100, "brave")));
        check.due("with the last tenth", x.round(), 2);
        check.due("no look", x.play(4), 0);
        check.due("no draw", x.size(5), 0);
        hows(check, "as ahead of any look", x, -2, -2);
        stands(check, "a foot stays up", x, 1, 1, 1);
        x = Check.yard(Told.game(4, 1, 1, "4,1", "turns 100 looks 9 eye 1 sees 0", Told.creeper("a", 0, 1, 0, 60, 100, "brave")));
        x.start(3);
        check.due("with another PART's", x.round(), 2);
        check.due("no draw either", x.size(5), 3);
    }

    private static void turnsBehindTheLast(Check check) {
        StillYard x = quiet(40, "3", "", Told.steady("a", 0, 1, "brave"));
        for (int round = 1; round <= 3; round++) {
            check.due("a verse of one PART", x.round(), 1);
            check.due("its tenths", x.play(5), 3 * round);
        }
        check.due("no draw", x.size(5), 0);
        x = quiet(40, "1,2", "turns 0 ", Told.steady("a", 0, 1, "brave"));
        x.tenths(2);
        check.due("ahead of its end", x.play(4), 0);
        x.tenths(1);
        check.due("with its end", x.play(4), 1);
        check.due("a draw behind the other one alone", x.size(5), Told.seedBehind(0, 1));
    }

    private static void turnsBelow(Check check) {
        int[][] chanceDrawTurns = {{0, 0, 0}, {1, 0, 1}, {1, 1, 0}, {37, 36, 1}, {37, 37, 0}, {99, 98, 1}, {99, 99, 0}, {100, 99, 1}};
        for (int[] row : chanceDrawTurns) {
            StillYard x = quiet(40, "1,9", "turns " + row[0] + " ", Told.steady("a", 0, 1, "brave"));
            x.start(Told.seedFor(row[1]));
            x.tenths(1);
            check.due("draw " + row[1] + " by chance " + row[0], x.play(4), row[2]);
        }
        int[][] loudDrawTurns = {{0, 5, 4, 1}, {0, 5, 5, 0}, {20, 30, 49, 1}, {20, 30, 50, 0}, {100, 99, 99, 1}, {2, 99, 99, 1}};
        for (int[] row : loudDrawTurns) {
            StillYard x = quiet(40, "1,9", "turns " + row[0] + " ", Told.gravel(0, 1, 1, row[1]), Told.steady("a", 0, 1, "brave"));
            x.start(Told.seedFor(row[2]));
            x.tenths(1);
            check.due("draw " + row[2] + " by chance " + row[0] + " and LOUD " + row[1], x.play(4), row[3]);
        }
        StillYard x = quiet(40, "1,1,1", "turns 0,50 ", Told.steady("a", 0, 1, "brave"));
        x.start(Told.seedFor(0, 49));
        x.round();
        check.due("the second PART has a chance of its own", x.play(5), 2);
    }

    private static void drawsGoRound(Check check) {
        StillYard x = quiet(40, "1,9", "turns 0 ", Told.steady("a", 0, 1, "safe 1"));
        int[][] seeds = {{0, 74}, {1, 149}, {872, 65474}, {873, 12}, {65535, 65461}, {65536, 65536}};
        for (int[] row : seeds) {
            x.start(row[0]);
            check.due("no draw yet", x.size(5), row[0]);
            x.tenths(1);
            check.due("behind " + row[0], x.size(5), row[1]);
        }
        x = quiet(40, "1,9", "turns 37 ", Told.steady("a", 0, 1, "brave"));
        x.start(65536);
        check.due("65536 mod 100 is 36", x.round() * 100 + x.play(5), 101);
        x = quiet(40, "1,9", "turns 36 ", Told.steady("a", 0, 1, "brave"));
        x.start(65536);
        check.due("and not below 36", x.round() * 100 + x.play(5), 110);
    }

    private static void feetUp(Check check) {
        StillYard x = watched(40, "2", 100, Told.creeper("a", 0, 2, 100, 60, 0, "brave"), Told.creeper("b", 0, 3, 100, 60, 0, "brave"),
            Told.creeper("c", 0, 3, 100, 60, 0, "sly 1"), Told.creeper("d", 0, 20, 100, 60, 0, "sly 2"));
        x.round();
        hows(check, "both feet down, one up, one that didn't go, one at the line", x, 0, 1, 0, 0);
        stands(check, "INTO 0 already", x, 0, 1, 0);
        stands(check, "its foot was up", x, 1, 0, 0);
        stands(check, "INTO stays", x, 2, 0, 1);
        stands(check, "never off the line", x, 3, 0, 0);
        check.due("a draw of one foot, three of those who stand", x.size(5), Told.seedBehind(0, 4));
    }

    private static void wobblesBelow(Check check) {
        int[][] wobbleDrawHow = {{0, 0, 0}, {1, 0, 4}, {1, 1, 0}, {50, 49, 4}, {50, 50, 0}, {99, 99, 0}, {100, 99, 4}};
        for (int[] row : wobbleDrawHow) {
            StillYard x = watched(4, "11", 0, Told.creeper("a", 0, 6, row[0], 60, 0, "brave"));
            x.start(Told.seedFor(row[1]));
            x.bring(0, 2);
            x.round();
            check.due("draw " + row[1] + " by wobble " + row[0], x.about(0, 2), row[2]);
            check.due("a draw more if it is STILL", x.size(5), Told.seedBehind(Told.seedFor(row[1]), row[2] == 0 ? 2 : 1));
        }
    }

    /** INTO 2 of 3 is 66, 1 of 3 is 33, 5 of 6 is 83, 19 of 20 is 95, 1 of 20 is 5. */
    private static void wobblesDownwards(Check check) {
        int[][] paceIntoBy = {{3, 2, 66}, {3, 1, 33}, {6, 5, 83}, {20, 19, 95}, {20, 1, 5}, {2, 1, 50}, {7, 6, 85}, {19, 18, 94}};
        for (int[] row : paceIntoBy) {
            for (int less = 0; less <= 1; less++) {
                StillYard x = watched(4, String.valueOf(row[1]), row[2] - less, Told.creeper("a", 0, row[0], 100, 60, 0, "brave"));
                x.bring(0, 3);
                x.round();
                check.due(row[1] + " of " + row[0] + " by " + (row[2] - less) + " and 1", x.about(0, 2), less == 1 ? 4 : 1);
            }
        }
    }

    private static void feetDown(Check check) {
        StillYard x = watched(40, "3", 100, Told.creeper("a", 0, 4, 100, 60, 0, "brave"), Told.creeper("b", 0, 4, 0, 60, 0, "brave"));
        x.round();
        stands(check, "WOBBLING", x, 0, 0, 0);
        stands(check, "not WOBBLING", x, 1, 0, 0);
        x.tenths(2);
        stands(check, "on from there", x, 0, 0, 2);
        stands(check, "on from there", x, 1, 0, 2);
    }

    // ---- looking

    private static void looksByEye(Check check) {
        int[][] looksEyeMany = {{1, 2, 0}, {19, 20, 0}, {20, 20, 1}, {3, 2, 1}, {4, 2, 2}, {5, 2, 2}, {6, 2, 3}, {60, 1, 3}, {60, 20, 3}};
        for (int[] row : looksEyeMany) {
            StillYard x = Check.yard(Told.game(40, 1, 1, "5", "looks " + row[0] + " eye " + row[1] + " sees 0",
                Told.steady("a", 0, 1, "brave"), Told.steady("b", 0, 1, "brave"), Told.steady("c", 0, 1, "brave")));
            x.round();
            for (int c = 0; c < 3; c++) {
                check.due("HOW of " + c + " by " + row[0] + " by " + row[1], x.about(c, 2), c < row[2] ? 0 : 3);
            }
            check.due("a draw of each", x.size(5), Told.seedBehind(0, row[2]));
        }
    }

    private static void greatestFirst(Check check) {
        String[] lines = {Told.creeper("a", 0, 5, 0, 60, 50, "brave"), Told.creeper("b", 0, 5, 0, 60, 50, "brave"),
            Told.creeper("c", 1, 5, 0, 60, 50, "brave")};
        int[][] places = {{3, 3, 3}, {3, 4, 3}, {3, 3, 4}, {4, 3, 5}};
        int[][] orders = {{0, 1, 2}, {1, 0, 2}, {2, 0, 1}, {2, 0, 1}};
        for (int i = 0; i < places.length; i++) {
            for (int first = 0; first < 3; first++) {
                StillYard x = watched(40, "5", 100, lines);
                boolean[] below = new boolean[3];
                below[first] = true;
                x.start(Told.seedBelow(50, below));
                for (int c = 0; c < 3; c++) {
                    x.bring(c, places[i][c] - 1);
                }
                x.round();
                for (int k = 0; k < 3; k++) {
                    check.due("the " + k + "-th looked at", x.about(orders[i][k], 2), k == first ? 5 : 0);
                }
            }
        }
        StillYard x = Check.yard(Told.game(40, 1, 1, "5", "looks 1 eye 1 sees 100", lines[0], lines[1]));
        x.bring(1, 1);
        x.round();
        hows(check, "the nearest alone", x, 3, 0);
    }

    private static void hidden(Check check) {
        int[][] laneTallPlaceHow = {{0, 121, 2, 2}, {0, 120, 2, 0}, {0, 121, 1, 0}, {0, 121, 0, 0}, {1, 121, 2, 0}, {0, 119, 2, 0},
            {0, 199, 39, 2}, {1, 199, 39, 0}};
        for (int[] row : laneTallPlaceHow) {
            for (int order = 0; order <= 1; order++) {
                String one = Told.creeper("a", 0, 20, 0, 120, 0, "brave");
                String other = Told.creeper("b", row[0], 20, 0, row[1], 0, "brave");
                StillYard x = watched(40, "1", 100, order == 0 ? one : other, order == 0 ? other : one);
                x.bring(order, 1);
                x.bring(1 - order, row[2]);
                x.round();
                check.due("HIDDEN by one of " + row[1] + " at " + row[2] + " in LANE " + row[0], x.about(order, 2), row[3]);
            }
        }
        StillYard x = watched(40, "1", 0, Told.creeper("a", 0, 2, 100, 60, 100, "brave"), Told.steady("b", 0, 20, "brave"));
        x.bring(1, 39);
        x.bring(0, 38);
        x.round();
        hows(check, "HIDDEN is not SEEN", x, 2, 0);
        check.due("nor back", x.about(0, 0), 38);
        check.due("draws of two feet and of the other one", x.size(5), Told.seedBehind(0, 3));
    }

    private static void seenNoLess(Check check) {
        int[][] seesPlaceHow = {{50, 3, 1}, {49, 3, 4}, {48, 2, 4}, {49, 2, 1}, {46, 0, 4}, {47, 0, 1}, {0, 0, 4}};
        for (int[] row : seesPlaceHow) {
            StillYard x = watched(4, "1", row[0], Told.creeper("a", 0, 2, 100, 60, 0, "brave"));
            x.bring(0, row[1]);
            x.round();
            check.due("50 by " + row[0] + " at " + row[1], x.about(0, 2), row[2]);
            check.due("SEEN so often", x.about(0, 3), row[2] == 4 ? 1 : 0);
            check.due("its PLACE", x.about(0, 0), row[2] == 4 ? 0 : row[1]);
        }
    }

    private static void wrongedBelow(Check check) {
        int[][] expectsDrawHow = {{0, 0, 0}, {1, 0, 5}, {1, 1, 0}, {50, 49, 5}, {50, 50, 0}, {99, 99, 0}, {100, 99, 5}};
        for (int[] row : expectsDrawHow) {
            StillYard x = watched(40, "2", 0, Told.creeper("a", 0, 1, 100, 60, row[0], "brave"));
            x.start(Told.seedFor(row[1]));
            x.round();
            check.due("draw " + row[1] + " by expects " + row[0], x.about(0, 2), row[2]);
            check.due("WRONGED so often", x.about(0, 4), row[2] == 5 ? 1 : 0);
            check.due("its PLACE", x.about(0, 0), row[2] == 5 ? 0 : 2);
        }
        StillYard x = watched(40, "1", 100, Told.creeper("a", 0, 2, 100, 60, 100, "brave"), Told.creeper("b", 0, 2, 0, 60, 100, "brave"),
            Told.creeper("c", 0, 2, 0, 60, 100, "sly 1"));
        x.round();
        hows(check, "who WOBBLES is not WRONGED; who has a foot up and stands still or didn't go may be", x, 1, 5, 5);
        check.due("draws of two feet and two that stand", x.size(5), Told.seedBehind(0, 4));
    }

    private static void behindAllLooks(Check check) {
        StillYard x = watched(40, "2", 0, Told.creeper("a", 0, 2, 0, 199, 100, "brave"), Told.creeper("b", 0, 2, 0, 60, 100, "brave"),
            Told.creeper("c", 1, 3, 100, 199, 0, "brave"), Told.creeper("d", 1, 2, 0, 60, 100, "brave"));
        x.bring(0, 20);
        x.bring(1, 10);
        x.bring(2, 39);
        x.bring(3, 37);
        x.round();
        hows(check, "those hide others who go back", x, 5, 2, 4, 2);
        for (int c = 0; c < 4; c++) {
            check.due("PLACE of " + c, x.about(c, 0), new int[] {0, 11, 0, 38}[c]);
        }
    }

    private static void behindALook(Check check) {
        StillYard x = Check.yard(Told.game(40, 1, 1, "2 1,2", "turns 99 looks 9 eye 1 sees 0", Told.gravel(0, 1, 40, 99),
            Told.creeper("a", 0, 2, 0, 60, 100, "sly 1"), Told.creeper("b", 0, 5, 100, 60, 100, "brave"),
            Told.creeper("c", 0, 3, 0, 60, 100, "sly 1")));
        x.round();
        said(check, "at its beginning", x, 0, 0, 0);
        check.due("behind the first PART", x.play(5), 3);
        check.due("LOUD 0", x.play(3), 0);
        hows(check, "all are sent back", x, 5, 4, 5);
        stands(check, "who had a foot up", x, 1, 0, 0);
        stands(check, "who had none", x, 0, 0, 0);
        stands(check, "who didn't go", x, 2, 0, 2);
    }

    private static void howTheyStood(Check check) {
        StillYard x = Check.yard(Told.game(40, 2, 1, "1", "looks 5 eye 1 sees 30", Told.creeper("a", 0, 20, 100, 60, 0, "brave"),
            Told.creeper("b", 0, 2, 100, 120, 100, "brave"), Told.creeper("c", 1, 2, 100, 60, 100, "brave"),
            Told.creeper("d", 1, 1, 100, 60, 0, "brave"), Told.creeper("e", 1, 1, 100, 60, 100, "brave")));
        for (int c = 0; c < 5; c++) {
            x.bring(c, new int[] {10, 30, 10, 30, 20}[c]);
        }
        x.round();
        hows(check, "by all of them but UNSEEN", x, 2, 4, 1, 0, 5);
        x = Check.yard(Told.game(40, 2, 1, "1", "looks 1 eye 1 sees 0", Told.creeper("a", 0, 2, 100, 60, 0, "brave"),
            Told.creeper("b", 0, 2, 100, 120, 0, "brave"), Told.creeper("c", 0, 2, 0, 60, 100, "brave")));
        x.bring(1, 20);
        x.round();
        hows(check, "UNSEEN, whatever they did", x, 3, 4, 3);
        x.bring(0, 30);
        x.round();
        hows(check, "the latest look alone", x, 4, 3, 3);
    }

    // ---- running

    private static void needsUpwards(Check check) {
        StillYard x = quiet(4, "4", "", Told.steady("a", 0, 1, "brave"), Told.steady("b", 0, 3, "brave"), Told.steady("c", 0, 9, "brave"),
            Told.steady("d", 0, 8, "brave"));
        x.bring(0, 1);
        x.bring(1, 2);
        x.bring(2, 1);
        x.bring(3, 1);
        check.due("touched", x.round(), 2);
        check.due("3 times 3 is 4.5, upwards 5 of 4; 9 is 4.5; 8 is 4", x.play(7), 2 + 4);
    }

    private static void needsMore(Check check) {
        StillYard x = quiet(4, "20", "", Told.steady("a", 0, 8, "brave"), Told.steady("b", 0, 20, "brave"), Told.steady("c", 0, 20, "brave"),
            Told.steady("d", 0, 20, "brave"));
        x.bring(0, 1);
        x.bring(1, 3);
        x.bring(2, 3);
        check.due("two come at the same TENTH", x.tenths(100), 20);
        check.due("the first of them", x.play(6), 1);
        check.due("a needs 12, c 40, d 10 of 4, b has TOUCHED", x.play(7), 1 + 4 + 8);
        x.start(0);
        x.bring(1, 3);
        x.bring(0, 0);
        x.tenths(19);
        check.due("not over", x.play(7), 0);
        x.bring(0, 1);
        x.bring(3, 0);
        x.tenths(1);
        check.due("a needs 4 of 4; b TOUCHED, c 10", x.play(7), 4);
    }

    private static void marksKeepAll(Check check) {
        String text = Told.game(20, 2, 1, "2 3,3", "turns 30 looks 2 eye 1 sees 0", Told.gravel(0, 1, 20, 7),
            Told.creeper("a", 0, 2, 50, 60, 60, "brave"), Told.creeper("b", 0, 3, 50, 90, 60, "brave"),
            Told.creeper("c", 1, 4, 50, 60, 60, "sly 1"));
        for (int seed = 0; seed < 40; seed++) {
            StillYard x = Check.yard(text);
            x.start(seed);
            x.round();
            x.tenths(4);
            x.mark();
            long[] before = all(x);
            long[] after = hence(x);
            x.start(seed + 1);
            x.tenths(9);
            x.bring(0, 19);
            x.tenths(seed % 9 + 1);
            x.back(0);
            same(check, "as it was", all(x), before);
            same(check, "and goes on like it", hence(x), after);
        }
    }

    private static long[] all(StillYard x) {
        int n = x.size(4);
        long[] all = new long[9 + 6 * n];
        for (int what = 0; what < 8; what++) {
            all[what] = x.play(what);
        }
        all[8] = x.size(5);
        for (int c = 0; c < n; c++) {
            for (int what = 0; what < 6; what++) {
                all[9 + 6 * c + what] = x.about(c, what);
            }
        }
        return all;
    }

    /** Puts right whom it can, and plays on. */
    private static long[] hence(StillYard x) {
        for (int c = 0; c < x.size(4); c++) {
            x.right(c);
        }
        x.tenths(3);
        return all(x);
    }

    private static void same(Check check, String what, long[] got, long[] due) {
        for (int i = 0; i < due.length; i++) {
            check.due(what + ", answer " + i, got[i], due[i]);
        }
    }

    // ---- moves

    private static void startAgain(Check check) {
        StillYard x = Check.yard(Told.game(9, 1, 1, "2,2", "turns 100 looks 9 eye 1 sees 0", Told.gravel(0, 1, 9, 30),
            Told.creeper("a", 0, 1, 0, 60, 100, "brave"), Told.creeper("b", 0, 3, 100, 60, 0, "brave")));
        long[] fresh = all(x);
        x.round();
        x.tenths(1);
        check.due("sent back", x.about(0, 4) * 10 + x.about(1, 3), 11);
        check.due("LOUD", x.play(3), 30);
        check.granted("start", x, x.start(0));
        same(check, "the beginning", all(x), fresh);
        check.refused("nobody was sent back", x, x.often(0), 6);
        check.denied("nobody was WRONGED", x, x.right(0), 5);
        x.bring(0, 8);
        x.tenths(1);
        check.due("over", x.play(6), 0);
        check.granted("start when over", x, x.start(5));
        check.due("nobody touched", x.play(6), -2);
        check.due("SEED", x.size(5), 5);
        check.due("goes on", x.tenths(1), 1);
    }

    private static void startRefused(Check check) {
        StillYard none = new StillYard();
        check.denied("no GAME", none, none.start(0), 1);
        check.denied("no GAME, and a number", none, none.start(-1), 1);
        StillYard x = quiet(9, "2", "", Told.steady("a", 0, 1, "brave"));
        x.start(9);
        x.tenths(1);
        for (int seed : new int[] {-1, 65537, Integer.MIN_VALUE, Integer.MAX_VALUE}) {
            check.denied("start " + seed, x, x.start(seed), 2);
            check.due("SEED as it was", x.size(5), 9);
            check.due("the play as it was", x.play(5), 1);
        }
        check.granted("the least", x, x.start(0));
        check.due("its SEED", x.size(5), 0);
        check.granted("the greatest", x, x.start(65536));
        check.due("its SEED", x.size(5), 65536);
    }

    private static void tenthsBounds(Check check) {
        StillYard x = quiet(40, "20", "", Told.steady("a", 0, 20, "brave"));
        check.well("one", x, x.tenths(1), 1);
        check.well("a hundred", x, x.tenths(100), 100);
        check.due("together", x.play(5), 101);
        for (int n : new int[] {0, -1, 101, Integer.MIN_VALUE, Integer.MAX_VALUE}) {
            check.refused("tenths " + n, x, x.tenths(n), 2);
            check.due("none of them", x.play(5), 101);
        }
    }

    private static void tenthsTillOver(Check check) {
        StillYard x = quiet(4, "20", "", Told.steady("a", 0, 1, "brave"));
        check.well("of five", x, x.tenths(5), 4);
        check.due("over", x.play(6), 0);
        x.start(0);
        check.well("just so many", x, x.tenths(4), 4);
        x.start(0);
        check.well("one less", x, x.tenths(3), 3);
        check.due("not over", x.play(6), -2);
        check.well("the last of a hundred", x, x.tenths(100), 1);
    }

    private static void tenthsRefused(Check check) {
        StillYard none = new StillYard();
        check.refused("no GAME", none, none.tenths(1), 1);
        check.refused("no GAME, and a number", none, none.tenths(0), 1);
        StillYard x = quiet(4, "20", "", Told.steady("a", 0, 1, "brave"));
        x.tenths(4);
        check.refused("over", x, x.tenths(1), 6);
        check.refused("over, and a number", x, x.tenths(0), 2);
        check.refused("over, and a greater number", x, x.tenths(101), 2);
        check.due("none more", x.play(5), 4);
    }

    private static void rounds(Check check) {
        StillYard x = quiet(4, "3", "", Told.steady("a", 0, 1, "brave"));
        check.well("he looked", x, x.round(), 1);
        check.due("three TENTHS", x.play(5), 3);
        check.well("it is over", x, x.round(), 2);
        check.due("one more", x.play(5), 4);
        x = quiet(40, "20 20 20 20,20 20 20 20,20 20 20 20,20 20 20 20,20 20 20 20", "turns 0,0,0,0 ", Told.steady("a", 0, 20, "brave"));
        check.well("the longest verse", x, x.round(), 1);
        check.due("400 TENTHS", x.play(5), 400);
        x.bring(0, 0);
        x.tenths(7);
        check.well("he looked again", x, x.round(), 1);
        check.due("from within a verse to its end", x.play(5), 800);
    }

    private static void roundRefused(Check check) {
        StillYard none = new StillYard();
        check.refused("no GAME", none, none.round(), 1);
        StillYard x = quiet(4, "20", "", Told.steady("a", 0, 1, "brave"));
        x.round();
        check.refused("over", x, x.round(), 6);
        check.due("none more", x.play(5), 4);
    }

    private static void brought(Check check) {
        StillYard x = quiet(9, "20", "", Told.steady("a", 0, 2, "brave"), Told.steady("b", 0, 2, "brave"));
        x.tenths(3);
        check.granted("to the line", x, x.bring(0, 0));
        stands(check, "at the line", x, 0, 0, 0);
        stands(check, "the other one stays", x, 1, 1, 1);
        check.granted("ahead of the wall", x, x.bring(0, 8));
        stands(check, "ahead of the wall", x, 0, 8, 0);
        check.due("not over", x.play(6), -2);
        x.tenths(1);
        check.granted("where it is", x, x.bring(0, 8));
        stands(check, "INTO 0", x, 0, 8, 0);
        check.due("TENTHS as they are", x.play(5), 4);
    }

    private static void bringRefused(Check check) {
        StillYard none = new StillYard();
        check.denied("no GAME", none, none.bring(0, 0), 1);
        check.denied("no GAME, and a number", none, none.bring(0, -1), 1);
        StillYard x = quiet(9, "20", "", Told.steady("a", 0, 2, "brave"), Told.steady("b", 0, 2, "brave"));
        x.tenths(3);
        for (int creeper : new int[] {-1, 2, Integer.MIN_VALUE, Integer.MAX_VALUE}) {
            check.denied("bring " + creeper, x, x.bring(creeper, 0), 1);
            check.denied("bring " + creeper + " beyond", x, x.bring(creeper, 9), 1);
        }
        for (int place : new int[] {-1, 9, 10, Integer.MIN_VALUE, Integer.MAX_VALUE}) {
            check.denied("to " + place, x, x.bring(0, place), 2);
            stands(check, "as it was", x, 0, 1, 1);
        }
        x.bring(0, 8);
        x.tenths(2);
        check.denied("over", x, x.bring(1, 0), 6);
        check.denied("over, and a number", x, x.bring(1, 9), 2);
        check.denied("over, and none such", x, x.bring(2, 0), 1);
        stands(check, "as it was", x, 1, 2, 1);
    }

    private static void putRight(Check check) {
        StillYard x = watched(20, "3", 0, Told.creeper("a", 0, 2, 0, 60, 100, "brave"));
        x.bring(0, 5);
        x.round();
        stands(check, "at the line", x, 0, 0, 0);
        x.tenths(1);
        check.granted("behind a TENTH more", x, x.right(0));
        stands(check, "where it was", x, 0, 6, 0);
        hows(check, "STILL", x, 0);
        check.due("WRONGED never", x.about(0, 4), 0);
        x.tenths(2);
        check.due("WRONGED again", x.about(0, 4), 1);
        x.bring(0, 1);
        check.granted("even if brought", x, x.right(0));
        stands(check, "where it was then", x, 0, 7, 0);
        x.round();
        x.round();
        check.due("twice more", x.about(0, 4), 2);
        check.granted("once less", x, x.right(0));
        check.due("one is left", x.about(0, 4), 1);
        check.due("all of those sent back", x.often(0), 100);
        x = watched(20, "3", 0, Told.creeper("a", 0, 20, 0, 60, 100, "safe 1"));
        x.round();
        check.granted("from the line to the line", x, x.right(0));
        stands(check, "at the line", x, 0, 0, 0);
        hows(check, "STILL at the line", x, 0);
    }

    private static void latestLookOnly(Check check) {
        StillYard x = watched(20, "3", 100, Told.creeper("a", 0, 1, 0, 60, 50, "brave"));
        x.start(Told.seedFor(49, 50));
        x.round();
        hows(check, "WRONGED", x, 5);
        x.round();
        hows(check, "STILL now", x, 0);
        check.denied("not in the latest look", x, x.right(0), 5);
        check.due("WRONGED once still", x.about(0, 4), 1);
    }

    private static void rightRefused(Check check) {
        StillYard none = new StillYard();
        check.denied("no GAME", none, none.right(0), 1);
        StillYard x = watched(4, "1", 0, Told.creeper("a", 0, 1, 0, 60, 100, "brave"), Told.creeper("b", 1, 2, 100, 60, 0, "brave"),
            Told.steady("c", 1, 4, "sly 1"));
        check.denied("ahead of any look", x, x.right(0), 5);
        x.bring(1, 3);
        x.round();
        hows(check, "as due", x, 5, 4, 0);
        for (int creeper : new int[] {-1, 3, Integer.MIN_VALUE, Integer.MAX_VALUE}) {
            check.denied("right " + creeper, x, x.right(creeper), 1);
        }
        check.denied("one SEEN", x, x.right(1), 5);
        check.denied("one STILL", x, x.right(2), 5);
        check.granted("one WRONGED", x, x.right(0));
        check.denied("one put right", x, x.right(0), 5);
        check.due("WRONGED no less than never", x.about(0, 4), 0);
        x.round();
        hows(check, "WRONGED again", x, 5);
        x.bring(0, 3);
        x.tenths(1);
        check.due("over", x.play(6), 0);
        check.denied("over", x, x.right(0), 6);
        check.denied("over, and it wasn't", x, x.right(2), 6);
        check.denied("over, and none such", x, x.right(3), 1);
    }

    // ---- answers

    private static void aheadOfAnyLook(Check check) {
        StillYard x = watched(20, "3", 0, Told.steady("a", 0, 1, "brave"), Told.steady("b", 1, 1, "brave"));
        hows(check, "at first", x, -2, -2);
        x.tenths(2);
        hows(check, "ahead of the look", x, -2, -2);
        check.due("that is no trouble", x.trouble(), 0);
        x.tenths(1);
        hows(check, "behind it", x, 0, 0);
        x.start(0);
        hows(check, "from the beginning again", x, -2, -2);
    }

    private static void comingTenth(Check check) {
        StillYard x = quiet(8, "2,1", "turns 0 ", Told.steady("a", 0, 1, "brave"), Told.steady("b", 0, 20, "safe 1"),
            Told.steady("c", 0, 20, "sly 1"));
        int[] goes = {111, 110, 100, 111, 110, 100, 111, 110, 0};
        for (int t = 0; t < goes.length; t++) {
            check.due("behind " + t, x.about(0, 5) * 100 + x.about(1, 5) * 10 + x.about(2, 5), goes[t]);
            x.tenths(1);
        }
        check.due("over", x.play(6), 0);
        check.due("TENTHS", x.play(5), 8);
    }

    private static void aboutRefused(Check check) {
        StillYard none = new StillYard();
        check.refused("no GAME", none, none.about(0, 0), 1);
        StillYard x = quiet(9, "2", "", Told.steady("a", 0, 1, "brave"), Told.steady("b", 0, 1, "brave"));
        for (int what = 0; what < 6; what++) {
            check.refused("none at -1", x, x.about(-1, what), 1);
            check.refused("none at 2", x, x.about(2, what), 1);
            x.about(1, what);
            check.due("well told", x.trouble(), 0);
        }
        for (int far : new int[] {-1, 6, Integer.MIN_VALUE, Integer.MAX_VALUE}) {
            check.refused("what " + far, x, x.about(0, far), 1);
            check.refused("creeper " + far, x, x.about(far, 0), 1);
        }
    }

    private static void nextSyllable(Check check) {
        StillYard x = quiet(40, "1 2 1,2,1 1", "turns 0,0 ", Told.steady("a", 0, 20, "brave"));
        int[][] due = {{0, 0, 0}, {0, 1, 0}, {0, 1, 1}, {0, 2, 0}, {1, 0, 0}, {1, 0, 1}, {2, 0, 0}, {2, 1, 0}, {0, 0, 0}, {0, 1, 0}};
        for (int t = 0; t < due.length; t++) {
            said(check, "behind " + t, x, due[t][0], due[t][1], due[t][2]);
            x.tenths(1);
        }
        fiveFulls(check);
    }

    /** Five PARTS of four syllables each, no two alike beside one another. */
    private static void fiveFulls(Check check) {
        int[][] parts = {{3, 1, 2, 20}, {2, 3, 1, 19}, {1, 2, 3, 18}, {4, 1, 2, 17}, {2, 4, 1, 16}};
        StringBuilder verse = new StringBuilder();
        for (int[] part : parts) {
            verse.append(verse.length() > 0 ? "," : "");
            for (int tenths : part) {
                verse.append(" ").append(tenths);
            }
        }
        StillYard x = quiet(40, verse.toString(), "turns 0,0,0,0 ", Told.steady("a", 0, 20, "sly 20"));
        for (int part = 0; part < 5; part++) {
            for (int i = 0; i < 4; i++) {
                for (int t = 0; t < parts[part][i]; t++) {
                    said(check, "five PARTS of four", x, part, i, t);
                    x.tenths(1);
                }
            }
        }
        said(check, "at its beginning", x, 0, 0, 0);
    }

    private static void touchedWithTheLastTenth(Check check) {
        String[] verses = {"4", "1 3", "1 1 2,1", "3,1", "2,1 1", "1,1,1,1", "4,9", "3 1,9"};
        int[][] due = {{0, 0, 4}, {0, 1, 3}, {0, 2, 2}, {1, 0, 1}, {1, 1, 1}, {3, 0, 1}, {0, 0, 4}, {0, 1, 1}};
        for (int i = 0; i < verses.length; i++) {
            String zeros = verses[i].replaceAll("[^,]", "").replace(",", ",0").replaceFirst(",", "turns ");
            StillYard x = quiet(4, verses[i], zeros + " ", Told.steady("a", 0, 1, "brave"));
            x.tenths(100);
            check.due("touched in " + verses[i], x.play(6), 0);
            said(check, "touched in " + verses[i], x, due[i][0], due[i][1], due[i][2]);
        }
        StillYard x = quiet(4, "4 1", "", Told.steady("a", 0, 1, "brave"));
        x.tenths(100);
        said(check, "with another syllable's last tenth: the next one", x, 0, 1, 0);
        x = quiet(4, "1,4", "turns 0 ", Told.steady("a", 0, 1, "brave"));
        x.tenths(100);
        said(check, "within a syllable", x, 1, 0, 3);
    }

    private static void soFar(Check check) {
        StillYard x = Check.yard(Told.game(9, 1, 1, "2", "looks 9 eye 1 sees 0", Told.gravel(0, 1, 9, 9),
            Told.creeper("a", 0, 1, 0, 60, 0, "brave")));
        int[][] loudLooksTenths = {{0, 0, 0}, {9, 0, 1}, {0, 1, 2}, {9, 1, 3}, {0, 2, 4}, {9, 2, 5}, {0, 3, 6}, {9, 3, 7}, {0, 4, 8},
            {9, 4, 9}, {9, 4, 9}};
        for (int[] row : loudLooksTenths) {
            for (int i = 0; i < 3; i++) {
                check.due("play " + (3 + i) + " behind " + row[2], x.play(3 + i), row[i]);
            }
            x.tenths(1);
        }
    }

    private static void nobodyTouched(Check check) {
        StillYard x = quiet(4, "1", "", Told.steady("a", 0, 20, "brave"), Told.steady("b", 0, 1, "brave"));
        for (int t = 0; t < 4; t++) {
            check.well("behind " + t, x, x.play(6), -2);
            x.tenths(1);
        }
        check.well("touched", x, x.play(6), 1);
        x.start(0);
        check.well("from the beginning again", x, x.play(6), -2);
    }

    private static void caughtWhenOver(Check check) {
        StillYard x = quiet(4, "20", "", Told.steady("a", 0, 20, "brave"), Told.steady("b", 0, 1, "brave"), Told.steady("c", 0, 20, "brave"));
        x.bring(0, 3);
        x.bring(2, 3);
        x.tenths(3);
        check.well("not over", x, x.play(7), 0);
        x.tenths(1);
        check.well("over", x, x.play(7), 5);
        x.start(0);
        check.well("not over again", x, x.play(7), 0);
        x.tenths(4);
        check.well("nobody at the line is CAUGHT", x, x.play(7), 0);
    }

    private static void playRefused(Check check) {
        StillYard none = new StillYard();
        for (int what = -1; what <= 8; what++) {
            check.refused("no GAME", none, none.play(what), 1);
        }
        StillYard x = quiet(4, "20", "", Told.steady("a", 0, 20, "brave"));
        for (int what : new int[] {-1, 8, Integer.MIN_VALUE, Integer.MAX_VALUE}) {
            check.refused("what " + what, x, x.play(what), 1);
        }
        for (int what = 0; what < 8; what++) {
            check.well("what " + what, x, x.play(what), what == 6 ? -2 : 0);
        }
    }

    /** It is sent back in each look: SEEN if it WOBBLES, WRONGED else. */
    private static void oftenDownwards(Check check) {
        StillYard x = watched(4, "1", 0, Told.creeper("a", 0, 2, 50, 60, 100, "brave"));
        int met = 0;
        for (int seed = 0; seed < 40; seed++) {
            x.start(seed);
            for (int i = 0; i < 3; i++) {
                x.round();
            }
            int wronged = x.about(0, 4);
            met |= 1 << wronged;
            check.due("WRONGED " + wronged + " of 3", x.often(0), new int[] {0, 33, 66, 100}[wronged]);
        }
        check.due("all of them were met", met, 15);
    }

    private static void oftenRefused(Check check) {
        StillYard none = new StillYard();
        check.refused("no GAME", none, none.often(0), 1);
        StillYard x = watched(20, "1", 0, Told.creeper("a", 0, 1, 0, 60, 100, "brave"), Told.steady("b", 0, 1, "brave"));
        check.refused("ahead of any look", x, x.often(0), 6);
        x.round();
        check.well("sent back", x, x.often(0), 100);
        check.refused("not sent back", x, x.often(1), 6);
        x.right(0);
        check.refused("put right", x, x.often(0), 6);
        for (int creeper : new int[] {-1, 2, Integer.MIN_VALUE, Integer.MAX_VALUE}) {
            check.refused("often " + creeper, x, x.often(creeper), 1);
        }
    }

    // ---- marks, led

    private static void markNumbers(Check check) {
        StillYard x = quiet(20, "20", "", Told.steady("a", 0, 1, "brave"));
        for (int i = 0; i < 3; i++) {
            check.due("so many", x.size(7), i);
            check.well("MARK " + i, x, x.mark(), i);
        }
        check.due("three", x.size(7), 3);
    }

    private static void markRefused(Check check) {
        StillYard none = new StillYard();
        check.refused("no GAME", none, none.mark(), 1);
        check.due("none", none.size(7), 0);
        StillYard x = quiet(20, "20", "", Told.steady("a", 0, 1, "brave"));
        for (int i = 0; i < 3; i++) {
            x.mark();
            x.tenths(1);
        }
        check.refused("a fourth", x, x.mark(), 3);
        check.due("three still", x.size(7), 3);
        x.back(2);
        check.due("the third is as it was", x.play(5), 2);
        x.start(0);
        check.refused("a start makes no room", x, x.mark(), 3);
    }

    private static void marksStay(Check check) {
        StillYard x = quiet(20, "20", "", Told.steady("a", 0, 1, "brave"));
        for (int i = 0; i < 3; i++) {
            x.tenths(1);
            x.mark();
        }
        int[] order = {2, 0, 1, 1, 2, 0};
        for (int mark : order) {
            check.granted("back " + mark, x, x.back(mark));
            check.due("its TENTHS", x.play(5), mark + 1);
            check.due("all of them", x.size(7), 3);
            x.tenths(7);
        }
        x.bring(0, 19);
        x.tenths(1);
        check.due("over", x.play(6), 0);
        check.granted("back when over", x, x.back(1));
        check.due("not over", x.play(6), -2);
        check.due("goes on", x.tenths(1), 1);
        StillYard y = quiet(4, "20", "", Told.steady("a", 0, 1, "brave"));
        y.tenths(4);
        check.due("a MARK of a play that is over", y.mark(), 0);
        y.start(3);
        check.granted("back to it", y, y.back(0));
        check.refused("over", y, y.tenths(1), 6);
    }

    private static void backRefused(Check check) {
        StillYard none = new StillYard();
        check.denied("no GAME", none, none.back(0), 1);
        StillYard x = quiet(20, "20", "", Told.steady("a", 0, 1, "brave"));
        check.denied("no MARK", x, x.back(0), 1);
        for (int i = 0; i < 3; i++) {
            x.mark();
            x.tenths(1);
            for (int mark : new int[] {-1, i + 1, 3, Integer.MIN_VALUE, Integer.MAX_VALUE}) {
                check.denied("back " + mark, x, x.back(mark), 1);
                check.due("the play stays", x.play(5), i + 1);
            }
        }
    }

    private static void ledNow(Check check) {
        StillYard x = quiet(20, "20", "", Told.steady("a", 0, 1, "brave"), Told.steady("b", 0, 1, "brave"), Told.steady("c", 0, 1, "brave"));
        check.due("of like ones by LINES", x.led(0) * 100 + x.led(1) * 10 + x.led(2), 12);
        x.bring(2, 1);
        check.due("the greatest first", x.led(0) * 100 + x.led(1) * 10 + x.led(2), 201);
        x.bring(1, 1);
        check.due("of like ones by LINES again", x.led(0) * 100 + x.led(1) * 10 + x.led(2), 120);
        x.bring(0, 19);
        x.tenths(1);
        check.due("when over too, and whom he wouldn't look at", x.led(0) * 100 + x.led(1) * 10 + x.led(2), 12);
    }

    private static void ledNone(Check check) {
        StillYard x = quiet(20, "20", "", Told.steady("a", 0, 1, "brave"), Told.steady("b", 0, 1, "brave"));
        x.law(0);
        for (int i : new int[] {-1, 2, 3, 5, Integer.MIN_VALUE, Integer.MAX_VALUE}) {
            check.due("none at " + i, throwsAt(x, i), true);
        }
        check.due("one at 1", throwsAt(x, 1), false);
        check.due("none without a GAME", throwsAt(new StillYard(), 0), true);
        check.due("TROUBLE as it was", x.trouble(), 1);
    }

    private static boolean throwsAt(StillYard x, int i) {
        try {
            x.led(i);
            return false;
        } catch (NoSuchElementException e) {
            return true;
        }
    }
}
