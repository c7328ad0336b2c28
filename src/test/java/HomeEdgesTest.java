import java.io.IOException;
import java.util.function.IntUnaryOperator;

/** Terms III and IV, the constants and promises 37 to 47: the boundary cases of home, starts, gravel and what is seen. */
public final class HomeEdgesTest {
    private static final int[] FAR_OFF = {-1, Integer.MIN_VALUE, Integer.MAX_VALUE};

    public static void main(String[] args) throws IOException {
        Edges edges = new Edges();
        home(edges);
        starts(edges);
        gravel(edges);
        sizes(edges);
        trouble(edges);
        edges.end();
    }

    private static void home(Edges edges) {
        edges.of("Terms III", "HOME: whether a creeper would be CAUGHT from a PLACE;", HomeEdgesTest::caughtFrom);
        edges.of("Terms III", "FAR: the greatest PLACE from which it wouldn't.", HomeEdgesTest::greatestPlace);
        edges.of("Promise 37", "HOME: 1 CAUGHT, 0.", HomeEdgesTest::oneOrNought);
        edges.of("Promise 37", "NONE: 1; 2 (PLACE 0 up to long).", HomeEdgesTest::homeRefused);
        edges.of("Promise 38", "FAR. NONE: 1.", HomeEdgesTest::farRefused);
    }

    private static void starts(Edges edges) {
        edges.of("Terms III", "FAIR: PLACES 0 .. 7 to start from (below long), one for each creeper,", HomeEdgesTest::upTo7);
        edges.of("Terms III", "by which (long less PLACE) times pace are least apart (greatest less least);", HomeEdgesTest::leastApart);
        edges.of("Terms III", "of like ones with the least sum of PLACES;", HomeEdgesTest::leastSum);
        edges.of("Terms III", "of these the first by creepers.", HomeEdgesTest::firstByCreepers);
        edges.of("Promise 39", "FAIR: how far apart they are. NONE: 1 (no GAME).", HomeEdgesTest::fairRefused);
        edges.of("Promise 40", "The PLACE of a creeper by that. NONE: 1.", HomeEdgesTest::fromRefused);
    }

    private static void gravel(Edges edges) {
        edges.of("Terms III", "LAY: a strip of n cells in one LANE, by which most STEPS are HEARD,", HomeEdgesTest::inOneLane);
        edges.of("Terms III", "if each creeper goes from its PLACE now to the wall:", HomeEdgesTest::nowToTheWall);
        edges.of("Terms III", "STEPS onto its cells that aren't gravel;", HomeEdgesTest::notGravel);
        edges.of("Terms III", "the first such by LANES, then by cells.", HomeEdgesTest::firstByLanes);
        edges.of("Promise 41", "LAY of n cells: 100 times the LANE and its first cell.", HomeEdgesTest::laneAndCell);
        edges.of("Promise 41", "NONE: 1 (no GAME); 2 (n 1 up to long).", HomeEdgesTest::layRefused);
        edges.of("Promise 42", "How many STEPS are HEARD by that.", HomeEdgesTest::heardByThat);
        edges.of("Promise 42", "NONE: likewise.", HomeEdgesTest::heardRefused);
        edges.of("Promise 43", "How loud a cell (1 up to long) of a LANE is; 0 without gravel.", HomeEdgesTest::loudOfCells);
        edges.of("Promise 43", "NONE: 1.", HomeEdgesTest::loudRefused);
    }

    private static void sizes(Edges edges) {
        edges.of("Promise 45", "0 long, 1 lanes, 2 PARTS, 3 gravels, 4 creepers, 5 SEED, 6 bytes of THE TAPE, 7 MARKS, 8 FILMS, "
            + "9 tenths of THE VERSE, 10 how many he looks at.", HomeEdgesTest::allSizes);
        edges.of("Promise 45", "NONE for others;", HomeEdgesTest::otherSizes);
        edges.of("Promise 45", "0 for what there isn't.", HomeEdgesTest::whatThereIsNot);
        edges.of("Promise 46", "5 its WAY (0 brave, 1 safe, 2 sly), 6 n of that (0).", HomeEdgesTest::itsWay);
        edges.of("Promise 46", "NONE for none such.", HomeEdgesTest::noSuchCreeper);
        edges.of("Terms IV", "`NONE = -1`: There is none; refused.", HomeEdgesTest::none);
    }

    private static void trouble(Edges edges) {
        edges.of("Terms IV", "TROUBLE of the latest call that may be refused", HomeEdgesTest::latestCall);
        edges.of("Terms IV", "(those of which a number is told here):", HomeEdgesTest::callsWithoutANumber);
        edges.of("Terms IV", "0 it wasn't;", HomeEdgesTest::notRefused);
        edges.of("Terms IV", "1 there is none such;", HomeEdgesTest::noneSuch);
        edges.of("Terms IV", "2 a number;", HomeEdgesTest::aNumber);
        edges.of("Terms IV", "3 no room;", HomeEdgesTest::noRoom);
        edges.of("Terms IV", "4 a FAULT;", HomeEdgesTest::aFault);
        edges.of("Terms IV", "5 not so;", HomeEdgesTest::notSo);
        edges.of("Terms IV", "6 there is none.", HomeEdgesTest::thereIsNone);
    }

    private static StillYard yard(int length, int lanes, int runs, String... lines) {
        return Check.yard(Told.game(length, lanes, runs, "2,1", "turns 100 looks 9 eye 2 sees 0", lines));
    }

    private static StillYard paced(int length, int runs, int... paces) {
        String[] lines = new String[paces.length];
        for (int c = 0; c < paces.length; c++) {
            lines[c] = Told.steady("" + (char) ('a' + c), 0, paces[c], "brave");
        }
        return yard(length, 1, runs, lines);
    }

    // ---- home

    private static void caughtFrom(Check check) {
        int[][] longRunsPacePlaceCaught = {{4, 1, 2, 4, 0}, {4, 1, 3, 2, 0}, {4, 1, 3, 3, 1}, {5, 1, 3, 3, 0}, {4, 1, 8, 1, 0}, {4, 1, 9, 1, 1},
            {5, 1, 9, 1, 0}, {4, 1, 20, 0, 0}, {4, 1, 20, 1, 1}, {40, 9, 20, 36, 0}, {40, 9, 20, 37, 1}, {40, 9, 18, 40, 0},
            {40, 9, 19, 40, 1}, {40, 1, 1, 40, 0}, {4, 9, 18, 4, 0}, {4, 9, 19, 4, 1}};
        for (int[] row : longRunsPacePlaceCaught) {
            StillYard x = paced(row[0], row[1], row[2]);
            check.well("pace " + row[2] + " from " + row[3] + " of " + row[0] + " times " + row[1], x, x.home(0, row[3]), row[4]);
        }
    }

    private static void greatestPlace(Check check) {
        int[][] longRunsPaceFar = {{4, 1, 2, 4}, {4, 1, 3, 2}, {4, 1, 1, 4}, {4, 1, 8, 1}, {4, 1, 9, 0}, {4, 1, 20, 0}, {40, 9, 20, 36},
            {40, 9, 18, 40}, {40, 9, 19, 37}, {40, 1, 3, 26}, {40, 1, 2, 40}, {5, 1, 3, 3}};
        for (int[] row : longRunsPaceFar) {
            StillYard x = paced(row[0], row[1], row[2]);
            check.well("pace " + row[2] + " of " + row[0] + " times " + row[1], x, x.far(0), row[3]);
        }
    }

    private static void oneOrNought(Check check) {
        StillYard x = paced(8, 1, 3, 4);
        x.bring(0, 7);
        for (int place = 0; place <= 8; place++) {
            check.well("pace 3 from " + place, x, x.home(0, place), place > 5 ? 1 : 0);
            check.well("pace 4 from " + place, x, x.home(1, place), place > 4 ? 1 : 0);
        }
    }

    private static void homeRefused(Check check) {
        StillYard none = new StillYard();
        check.refused("no GAME", none, none.home(0, 0), 1);
        check.refused("no GAME, and a number", none, none.home(0, -1), 1);
        StillYard x = paced(8, 1, 3, 4);
        check.well("the line", x, x.home(0, 0), 0);
        check.well("the wall", x, x.home(0, 8), 1);
        check.refused("beyond the wall", x, x.home(0, 9), 2);
        check.refused("a third creeper", x, x.home(2, 0), 1);
        for (int far : FAR_OFF) {
            check.refused("PLACE " + far, x, x.home(0, far), 2);
            check.refused("creeper " + far, x, x.home(far, 0), 1);
            check.refused("creeper " + far + ", and a PLACE", x, x.home(far, 9), 1);
        }
    }

    private static void farRefused(Check check) {
        StillYard none = new StillYard();
        check.refused("no GAME", none, none.far(0), 1);
        StillYard x = paced(8, 1, 3, 20);
        check.well("the first", x, x.far(0), 5);
        check.well("the last, from no PLACE but the line", x, x.far(1), 0);
        check.refused("a third creeper", x, x.far(2), 1);
        for (int far : FAR_OFF) {
            check.refused("creeper " + far, x, x.far(far), 1);
        }
    }

    // ---- starts

    private static void fair(Check check, StillYard x, int apart, int... places) {
        check.well("apart", x, x.fair(), apart);
        for (int c = 0; c < places.length; c++) {
            check.well("start of " + c, x, x.from(c), places[c]);
        }
    }

    private static void upTo7(Check check) {
        fair(check, paced(40, 1, 1, 2), 66 - 40, 0, 7);
        fair(check, paced(8, 1, 1, 20), 20 - 8, 0, 7);
        fair(check, paced(7, 1, 1, 20), 20 - 7, 0, 6);
        fair(check, paced(4, 1, 1, 20), 20 - 4, 0, 3);
        fair(check, paced(4, 1, 20, 1), 20 - 4, 3, 0);
        fair(check, paced(9, 1, 1, 20), 40 - 9, 0, 7);
        fair(check, paced(40, 1, 20), 0, 0);
        fair(check, paced(40, 1, 1, 20, 1, 20, 1), 660 - 40, 0, 7, 0, 7, 0);
    }

    private static void leastApart(Check check) {
        fair(check, paced(6, 1, 2, 3), 0, 0, 2);
        fair(check, paced(6, 1, 3, 2), 0, 2, 0);
        fair(check, paced(6, 1, 2, 3, 6), 0, 0, 2, 4);
        fair(check, paced(5, 1, 2, 3), 0, 2, 3);
        fair(check, paced(5, 1, 7, 20), 1, 2, 4);
        fair(check, paced(5, 1, 4, 3, 5), apart(5, new int[] {4, 3, 5}), places(5, new int[] {4, 3, 5}));
        fair(check, paced(10, 2, 7, 11, 13), apart(10, new int[] {7, 11, 13}), places(10, new int[] {7, 11, 13}));
    }

    private static int apart(int length, int[] paces) {
        return told(length, paces)[0];
    }

    private static int[] places(int length, int[] paces) {
        int[] told = told(length, paces);
        return new int[] {told[1], told[2], told[3]};
    }

    /** Three creepers, all PLACES tried one after the other: how far apart, then the PLACES. */
    private static int[] told(int length, int[] paces) {
        int base = Math.min(8, length);
        int[] best = null;
        for (int code = 0; code < base * base * base; code++) {
            int[] p = {code / base / base, code / base % base, code % base};
            int[] away = new int[3];
            for (int c = 0; c < 3; c++) {
                away[c] = (length - p[c]) * paces[c];
            }
            int apart = Math.max(away[0], Math.max(away[1], away[2])) - Math.min(away[0], Math.min(away[1], away[2]));
            int sum = p[0] + p[1] + p[2];
            if (best == null || apart < best[0] || apart == best[0] && sum < best[4]) {
                best = new int[] {apart, p[0], p[1], p[2], sum};
            }
        }
        return best;
    }

    private static void leastSum(Check check) {
        fair(check, paced(6, 1, 5, 5), 0, 0, 0);
        fair(check, paced(40, 9, 20, 20, 20, 20, 20), 0, 0, 0, 0, 0, 0);
        fair(check, paced(7, 1, 1, 2), 0, 1, 4);
        fair(check, paced(40, 1, 1, 3, 1), 99 - 40, 0, 7, 0);
        fair(check, paced(8, 1, 1, 2), 0, 0, 4);
    }

    /**
     * No two choices of PLACES are alike in both: the lesser PLACE of each creeper by the two of them would be no further
     * apart, with a lesser sum. So there is but one, and it must be found in whatever order the creepers are told.
     */
    private static void firstByCreepers(Check check) {
        fair(check, paced(6, 1, 2, 3, 2), 0, 0, 2, 0);
        fair(check, paced(6, 1, 3, 2, 2), 0, 2, 0, 0);
        fair(check, paced(6, 1, 2, 2, 3), 0, 0, 0, 2);
        int[][] paces = {{7, 11, 13}, {5, 8, 20}, {3, 17, 4}, {19, 20, 18}};
        int[][] orders = {{0, 1, 2}, {0, 2, 1}, {1, 0, 2}, {1, 2, 0}, {2, 0, 1}, {2, 1, 0}};
        for (int[] p : paces) {
            int[] first = places(9, p);
            for (int[] o : orders) {
                StillYard x = paced(9, 1, p[o[0]], p[o[1]], p[o[2]]);
                fair(check, x, apart(9, p), first[o[0]], first[o[1]], first[o[2]]);
            }
        }
    }

    private static void fairRefused(Check check) {
        StillYard none = new StillYard();
        check.refused("no GAME", none, none.fair(), 1);
        StillYard x = paced(6, 1, 2, 3);
        x.bring(0, 5);
        check.well("from any PLACES now", x, x.fair(), 0);
        check.due("nobody is moved", x.about(0, 0) * 10 + x.about(1, 0), 50);
    }

    private static void fromRefused(Check check) {
        StillYard none = new StillYard();
        check.refused("no GAME", none, none.from(0), 1);
        StillYard x = paced(6, 1, 2, 3);
        check.well("not ahead of fair() alone", x, x.from(1), 2);
        check.well("the line", x, x.from(0), 0);
        check.refused("a third creeper", x, x.from(2), 1);
        for (int far : FAR_OFF) {
            check.refused("creeper " + far, x, x.from(far), 1);
        }
        Check.read(x, Told.game(6, 1, 1, "1", "looks 1 eye 1 sees 0", Told.steady("a", 0, 3, "brave"), Told.steady("b", 0, 2, "brave")));
        check.well("by the GAME now", x, x.from(0), 2);
    }

    // ---- gravel

    private static void laid(Check check, String what, StillYard x, int n, int lay, int heard) {
        check.well(what + ": LAY of " + n, x, x.lay(n), lay);
        check.well(what + ": HEARD of " + n, x, x.heard(n), heard);
    }

    private static void inOneLane(Check check) {
        StillYard x = yard(6, 3, 1, Told.steady("a", 0, 1, "brave"), Told.steady("b", 2, 1, "brave"), Told.steady("c", 2, 1, "brave"));
        laid(check, "two in LANE 2", x, 1, 201, 2);
        laid(check, "two in LANE 2", x, 3, 201, 6);
        laid(check, "all of LANE 2", x, 6, 201, 12);
        x = yard(40, 6, 1, Told.steady("a", 5, 1, "brave"));
        laid(check, "the longest LANE", x, 40, 501, 40);
    }

    private static void nowToTheWall(Check check) {
        StillYard x = yard(6, 1, 1, Told.steady("a", 0, 1, "brave"), Told.steady("b", 0, 1, "brave"));
        x.bring(0, 5);
        x.bring(1, 5);
        laid(check, "a STEP onto the wall's cell, none onto where they are", x, 1, 6, 2);
        laid(check, "the last two cells", x, 2, 5, 2);
        laid(check, "all cells", x, 6, 1, 2);
        x.bring(1, 2);
        laid(check, "where both go", x, 1, 6, 2);
        laid(check, "3 up to 6, by one and at last by both", x, 4, 3, 5);
        x.bring(0, 0);
        x.bring(1, 0);
        laid(check, "from the line onto the first cell", x, 1, 1, 2);
        x.start(0);
        x.bring(0, 5);
        x.tenths(1);
        check.due("over", x.play(6), 0);
        laid(check, "who is at the wall goes no further", x, 6, 1, 5);
    }

    private static void notGravel(Check check) {
        StillYard x = yard(6, 2, 1, Told.gravel(0, 2, 3, 9), Told.gravel(1, 1, 6, 1), Told.steady("a", 0, 1, "brave"));
        laid(check, "the first cell", x, 1, 1, 1);
        laid(check, "beyond the gravel", x, 2, 4, 2);
        laid(check, "beyond the gravel", x, 3, 4, 3);
        laid(check, "one cell of it too", x, 4, 3, 3);
        laid(check, "all of it too", x, 6, 1, 4);
        x = yard(6, 1, 1, Told.gravel(0, 1, 6, 1), Told.steady("a", 0, 1, "brave"));
        laid(check, "gravel all over", x, 1, 1, 0);
        laid(check, "gravel all over", x, 6, 1, 0);
        x = yard(6, 2, 1, Told.gravel(1, 1, 6, 1), Told.steady("a", 0, 1, "brave"));
        laid(check, "gravel of another LANE doesn't count", x, 6, 1, 6);
    }

    private static void firstByLanes(Check check) {
        StillYard x = yard(6, 3, 1, Told.steady("a", 2, 1, "brave"), Told.steady("b", 1, 1, "brave"));
        laid(check, "LANE 1 as much as LANE 2", x, 2, 101, 2);
        x.bring(1, 3);
        laid(check, "cells 4 and 5 of LANE 1, ahead of LANE 2's first", x, 2, 104, 2);
        laid(check, "three cells", x, 3, 104, 3);
        laid(check, "four cells are more in LANE 2", x, 4, 201, 4);
        x = yard(6, 3, 1, Told.gravel(0, 1, 6, 5), Told.gravel(1, 1, 6, 5), Told.gravel(2, 1, 6, 5), Told.steady("a", 2, 1, "brave"));
        laid(check, "nothing anywhere: the first of all", x, 4, 1, 0);
    }

    private static void laneAndCell(Check check) {
        StillYard x = yard(40, 6, 1, Told.steady("a", 5, 1, "brave"));
        x.bring(0, 39);
        laid(check, "the last cell of the last LANE", x, 1, 540, 1);
        x = yard(40, 1, 1, Told.steady("a", 0, 1, "brave"));
        laid(check, "the first cell of the first LANE", x, 1, 1, 1);
    }

    private static void stripRefused(Check check, String what, IntUnaryOperator none, StillYard x, IntUnaryOperator call) {
        for (int far : FAR_OFF) {
            check.refused(what + " " + far, x, call.applyAsInt(far), 2);
        }
        check.refused(what + " of no cells", x, call.applyAsInt(0), 2);
        check.refused(what + " of 7 cells", x, call.applyAsInt(7), 2);
        check.due(what + " of 1", call.applyAsInt(1) >= 0, true);
        check.due("no trouble", x.trouble(), 0);
        check.due(what + " of 6", call.applyAsInt(6) >= 0, true);
        check.due("no trouble", x.trouble(), 0);
        check.due(what + " without a GAME", none.applyAsInt(1), -1);
        check.due(what + " without a GAME, and a number", none.applyAsInt(0), -1);
    }

    private static void layRefused(Check check) {
        StillYard none = new StillYard();
        StillYard x = paced(6, 1, 1);
        stripRefused(check, "lay", none::lay, x, x::lay);
        check.due("without a GAME: 1", none.trouble(), 1);
    }

    private static void heardByThat(Check check) {
        StillYard x = yard(6, 2, 1, Told.steady("a", 1, 1, "brave"), Told.steady("b", 1, 1, "brave"));
        for (int n = 1; n <= 6; n++) {
            check.well("HEARD of " + n + " without lay()", x, x.heard(n), 2 * n);
        }
        x.lay(6);
        check.well("not of the latest lay()", x, x.heard(1), 2);
        x.bring(0, 5);
        check.well("from their PLACES now", x, x.heard(6), 7);
    }

    private static void heardRefused(Check check) {
        StillYard none = new StillYard();
        StillYard x = paced(6, 1, 1);
        stripRefused(check, "heard", none::heard, x, x::heard);
        check.due("without a GAME: 1", none.trouble(), 1);
    }

    private static void loudOfCells(Check check) {
        StillYard x = yard(6, 2, 1, Told.gravel(1, 1, 2, 99), Told.gravel(1, 2, 4, 1), Told.gravel(0, 6, 6, 7), Told.gravel(0, 6, 6, 8),
            Told.gravel(0, 5, 6, 6), Told.steady("a", 0, 1, "brave"));
        int[][] louds = {{0, 0, 0, 0, 6, 8}, {99, 99, 1, 1, 0, 0}};
        for (int lane = 0; lane < 2; lane++) {
            for (int cell = 1; cell <= 6; cell++) {
                check.well("cell " + cell + " of LANE " + lane, x, x.loud(lane, cell), louds[lane][cell - 1]);
            }
        }
        x = yard(6, 2, 1, Told.steady("a", 0, 1, "brave"));
        check.well("no gravel at all", x, x.loud(1, 6), 0);
    }

    private static void loudRefused(Check check) {
        StillYard none = new StillYard();
        check.refused("no GAME", none, none.loud(0, 1), 1);
        StillYard x = yard(6, 2, 1, Told.gravel(1, 1, 6, 99), Told.steady("a", 0, 1, "brave"));
        check.refused("a third LANE", x, x.loud(2, 1), 1);
        check.refused("the line", x, x.loud(1, 0), 1);
        check.refused("beyond the wall", x, x.loud(1, 7), 1);
        for (int far : FAR_OFF) {
            check.refused("LANE " + far, x, x.loud(far, 1), 1);
            check.refused("cell " + far, x, x.loud(1, far), 1);
        }
        check.well("the first LANE and cell", x, x.loud(0, 1), 0);
        check.well("the last LANE and cell", x, x.loud(1, 6), 99);
    }

    // ---- what is seen

    private static void allSizes(Check check) {
        StillYard x = Check.yard(Told.game(40, 6, 9, "20 20 20 20,20 20 20 20,20 20 20 20,20 20 20 20,20 20 20 20",
            "turns 0,0,0,0 looks 60 eye 1 sees 0", Told.gravel(0, 1, 1, 1), Told.gravel(0, 1, 1, 1), Told.gravel(0, 1, 1, 1),
            Told.gravel(0, 1, 1, 1), Told.gravel(0, 1, 1, 1), Told.steady("a", 0, 1, "brave"), Told.steady("b", 0, 1, "brave"),
            Told.steady("c", 0, 1, "brave"), Told.steady("d", 0, 1, "brave"), Told.steady("e", 0, 1, "brave")));
        x.start(65536);
        for (int i = 0; i < 45; i++) {
            x.feed(0, 0, 0, 0, 0);
            x.film(i % 4, true, true);
            x.mark();
        }
        int[] greatest = {40, 6, 5, 5, 5, 65536, 900, 3, 30, 400, 60};
        for (int what = 0; what < greatest.length; what++) {
            check.due("the greatest size " + what, x.size(what), greatest[what]);
        }
        x = Check.yard(Told.game(4, 1, 1, "1", "looks 1 eye 20 sees 0", Told.steady("a", 0, 1, "brave")));
        int[] least = {4, 1, 1, 0, 1, 0, 0, 0, 0, 1, 0};
        for (int what = 0; what < least.length; what++) {
            check.due("the least size " + what, x.size(what), least[what]);
        }
        x = Check.yard(Told.game(4, 1, 1, "1", "looks 19 eye 4 sees 0", Told.steady("a", 0, 1, "brave")));
        check.due("looks by eye, downwards", x.size(10), 4);
    }

    private static void otherSizes(Check check) {
        StillYard x = paced(6, 1, 1);
        StillYard none = new StillYard();
        for (int what : new int[] {-1, 11, 12, Integer.MIN_VALUE, Integer.MAX_VALUE}) {
            check.due("size " + what, x.size(what), -1);
            check.due("size " + what + " without a GAME", none.size(what), -1);
        }
    }

    private static void whatThereIsNot(Check check) {
        StillYard x = new StillYard();
        for (int what = 0; what <= 10; what++) {
            check.due("size " + what, x.size(what), 0);
        }
        x.feed(0, 0, 0, 0, 0);
        check.due("a TAPE without a GAME", x.size(6), 20);
        x = paced(6, 1, 1);
        check.due("no gravel", x.size(3), 0);
        check.due("no MARKS", x.size(7), 0);
        check.due("no FILMS", x.size(8), 0);
    }

    private static void itsWay(Check check) {
        StillYard x = yard(6, 6, 1, Told.creeper("a", 5, 20, 100, 199, 100, "brave"), Told.creeper("b", 0, 1, 0, 60, 0, "safe 1"),
            Told.creeper("c", 1, 2, 3, 104, 5, "safe 5"), Told.creeper("d", 2, 3, 4, 105, 6, "sly 1"),
            Told.creeper("e", 3, 4, 5, 106, 7, "sly 20"));
        int[][] rows = {{5, 20, 100, 199, 100, 0, 0}, {0, 1, 0, 60, 0, 1, 1}, {1, 2, 3, 104, 5, 1, 5}, {2, 3, 4, 105, 6, 2, 1},
            {3, 4, 5, 106, 7, 2, 20}};
        for (int c = 0; c < 5; c++) {
            for (int what = 0; what < 7; what++) {
                check.due("creeper " + c + ", " + what, x.creeper(c, what), rows[c][what]);
            }
        }
        Check.read(x, Told.game(6, 1, 1, "1", "looks 1 eye 1 sees 0", Told.steady("a", 0, 1, "sly 9"), Told.steady("b", 0, 1, "brave")));
        check.due("brave behind a sly one", x.creeper(1, 5) * 10 + x.creeper(1, 6), 0);
    }

    private static void noSuchCreeper(Check check) {
        StillYard none = new StillYard();
        check.due("no GAME", none.creeper(0, 0), -1);
        StillYard x = paced(6, 1, 1, 2);
        for (int far : FAR_OFF) {
            check.due("creeper " + far, x.creeper(far, 0), -1);
            check.due("what " + far, x.creeper(0, far), -1);
        }
        check.due("a third creeper", x.creeper(2, 0), -1);
        check.due("what 7", x.creeper(1, 7), -1);
        check.due("what 6", x.creeper(1, 6), 0);
        x = paced(6, 1, 1, 1, 1, 1, 1);
        check.due("a sixth of five", x.creeper(5, 0), -1);
    }

    private static void none(Check check) {
        check.due("NONE", StillYard.NONE, -1);
        StillYard x = new StillYard();
        check.due("refused", x.far(0), StillYard.NONE);
        check.due("there is none", x.size(11), StillYard.NONE);
    }

    // ---- trouble

    private static void latestCall(Check check) {
        StillYard x = paced(6, 1, 1);
        check.refused("1", x, x.law(9), 1);
        check.refused("then 2", x, x.lay(0), 2);
        check.well("then none", x, x.lay(1), 1);
        check.denied("then 1", x, x.back(0), 1);
        check.granted("then none", x, x.start(1));
    }

    private static void callsWithoutANumber(Check check) {
        StillYard x = paced(6, 1, 1);
        for (int trouble = 0; trouble <= 1; trouble++) {
            long asked = trouble == 1 ? x.law(9) : x.ways();
            check.due("asked", asked, trouble == 1 ? -1 : 100);
            x.feed(1, 2, 3, 4, 5);
            check.due("behind feed", x.trouble(), trouble);
            x.fault();
            x.where();
            check.due("behind fault and where", x.trouble(), trouble);
            x.size(0);
            x.size(99);
            x.creeper(0, 0);
            x.creeper(9, 9);
            check.due("behind size and creeper", x.trouble(), trouble);
            x.led(0);
            check.due("behind led", x.trouble(), trouble);
        }
        for (int i = 0; i < 50; i++) {
            x.feed(0, 0, 0, 0, 0);
        }
        check.due("behind a feed that is refused", x.trouble(), 1);
    }

    private static void notRefused(Check check) {
        StillYard x = new StillYard();
        check.due("a new object", x.trouble(), 0);
        check.refused("refused", x, x.ways(), 1);
        Check.feed(x, "yard long 4");
        check.due("as long as no such call comes", x.trouble(), 1);
        x = paced(6, 1, 1);
        check.due("a GAME", x.trouble(), 0);
        check.well("an answer of 0", x, x.off(), 0);
        check.well("an answer of -2", x, x.play(6), -2);
    }

    private static void noneSuch(Check check) {
        StillYard x = paced(6, 1, 1);
        check.refused("creeper", x, x.about(1, 0), 1);
        check.refused("what", x, x.play(8), 1);
        check.refused("PART", x, x.behind(2), 1);
        check.refused("cell", x, x.loud(0, 7), 1);
        check.refused("pair", x, x.rest(0, 0, 99), 1);
        check.denied("MARK", x, x.back(0), 1);
    }

    private static void aNumber(Check check) {
        StillYard x = paced(6, 1, 1);
        check.denied("SEED", x, x.start(65537), 2);
        check.refused("TENTHS", x, x.tenths(101), 2);
        check.denied("PLACE", x, x.bring(0, 6), 2);
        check.refused("x", x, x.risk(0, 0, 4), 2);
        check.refused("n", x, x.both(3), 2);
        check.refused("bytes", x, x.game(1), 2);
    }

    private static void noRoom(Check check) {
        StillYard x = paced(6, 1, 1);
        for (int i = 0; i < 30; i++) {
            x.film(0, true, true);
            x.mark();
            x.stop(0, true);
        }
        check.refused("a FILM", x, x.film(0, true, true), 3);
        check.refused("a MARK", x, x.mark(), 3);
        check.refused("a STOP", x, x.stop(0, true), 3);
    }

    private static void aFault(Check check) {
        StillYard x = paced(6, 1, 1);
        check.refused("a text", x, Check.read(x, "yard long 41"), 4);
        check.due("its FAULT", x.fault(), 4);
        check.due("its place", x.where(), 10);
        check.well("any call ends it", x, x.ways(), 100);
        check.due("and its place", x.where(), -1);
        check.due("but not the FAULT", x.fault(), 4);
    }

    private static void notSo(Check check) {
        StillYard x = paced(6, 1, 1);
        check.denied("nobody was WRONGED", x, x.right(0), 5);
    }

    private static void thereIsNone(Check check) {
        StillYard x = paced(6, 1, 1);
        check.refused("sent back", x, x.often(0), 6);
        check.refused("FILMS", x, x.law(0), 6);
        check.refused("FILMS with shoulders so", x, x.says(0, true), 6);
        check.refused("STOPS", x, x.span(0, true), 6);
        x.bring(0, 5);
        x.tenths(1);
        check.refused("a coming TENTH", x, x.tenths(1), 6);
        check.refused("a coming look", x, x.round(), 6);
        check.denied("a play to come to", x, x.bring(0, 0), 6);
        check.denied("a look to put right", x, x.right(0), 6);
    }
}
