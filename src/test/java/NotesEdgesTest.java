import java.io.IOException;

/** Terms III and promises 30 to 36: the boundary cases of films and stops. */
public final class NotesEdgesTest {
    private static final int[] FAR_OFF = {-1, Integer.MIN_VALUE, Integer.MAX_VALUE};
    /** The least and the greatest w by n STOPS of which k wobbled, worked out with whole numbers elsewhere. */
    private static final int[][] LEAST = {{0, 5}, {0, 3, 23}, {0, 2, 14, 37}, {0, 2, 10, 25, 48}, {0, 2, 8, 19, 35, 55},
        {0, 1, 7, 16, 28, 42, 61}, {0, 1, 6, 13, 23, 35, 48, 66}, {0, 1, 5, 12, 20, 29, 41, 53, 69},
        {0, 1, 5, 10, 17, 26, 35, 46, 58, 72}};
    private static final int[][] GREATEST = {{95, 100}, {77, 97, 100}, {63, 86, 98, 100}, {52, 75, 90, 98, 100},
        {45, 65, 81, 92, 98, 100}, {39, 58, 72, 84, 93, 99, 100}, {34, 52, 65, 77, 87, 94, 99, 100},
        {31, 47, 59, 71, 80, 88, 95, 99, 100}, {28, 42, 54, 65, 74, 83, 90, 95, 99, 100}};

    public static void main(String[] args) throws IOException {
        Edges edges = new Edges();
        films(edges);
        stops(edges);
        edges.end();
    }

    private static void films(Edges edges) {
        edges.of("Terms III", "FILMS, up to 30:", NotesEdgesTest::thirtyFilms);
        edges.of("Terms III", "a PART but the last, whether his shoulders moved, whether he turned.", NotesEdgesTest::allButTheLast);
        edges.of("Terms III", "LAW: hundredths, downwards, of turns of all FILMS of a PART;", NotesEdgesTest::lawDownwards);
        edges.of("Terms III", "SAYS: of those with shoulders so.", NotesEdgesTest::shouldersSo);
        edges.of("Promise 30", "A FILM: how many there are.", NotesEdgesTest::howMany);
        edges.of("Promise 30", "NONE: 1 (a PART but the last); 3.", NotesEdgesTest::filmRefused);
        edges.of("Promise 31", "NONE: 1; 6 (no FILMS).", NotesEdgesTest::lawRefused);
        edges.of("Promise 32", "NONE: 1; 6 (no such FILMS).", NotesEdgesTest::saysRefused);
        edges.of("Promise 33", "How far LAW is off what is told, all PARTS that have FILMS together.", NotesEdgesTest::offTogether);
        edges.of("Promise 33", "NONE: 1 (no GAME).", NotesEdgesTest::offRefused);
    }

    private static void stops(Edges edges) {
        edges.of("Terms III", "STOPS, up to 9 for a creeper:", NotesEdgesTest::nineStops);
        edges.of("Terms III", "SPAN: w of 0 .. 100 by which, with w of 100 ways to wobble each,", NotesEdgesTest::noneAndAll);
        edges.of("Terms III", "neither as many as were or more, nor as many or fewer, come in less than a twentieth of all ways;",
            NotesEdgesTest::noLessThanATwentieth);
        edges.of("Terms III", "the least, the greatest.", NotesEdgesTest::leastAndGreatest);
        edges.of("Promise 34", "A STOP: how many a creeper has. NONE: 1; 3.", NotesEdgesTest::stopRefused);
        edges.of("Promise 35", "SPAN, the least (or greatest). NONE: 1; 6 (no STOPS).", NotesEdgesTest::spanRefused);
        edges.of("Promise 36", "Whether what is told of a creeper's wobble is in its SPAN: 1, 0.", NotesEdgesTest::inItsSpan);
        edges.of("Promise 36", "NONE: likewise.", NotesEdgesTest::fitsRefused);
    }

    private static StillYard parts(String verse, String turns) {
        return Check.yard(Told.game(9, 1, 1, verse, turns + "looks 1 eye 1 sees 0", Told.steady("a", 0, 1, "brave"),
            Told.steady("b", 0, 1, "brave")));
    }

    private static StillYard three() {
        return parts("1,1,1", "turns 20,50 ");
    }

    private static void filmed(StillYard x, int part, boolean shoulders, int turned, int still) {
        for (int i = 0; i < turned + still; i++) {
            x.film(part, shoulders, i < turned);
        }
    }

    // ---- films

    private static void thirtyFilms(Check check) {
        StillYard x = three();
        for (int i = 1; i <= 30; i++) {
            check.well("FILM " + i, x, x.film(i % 2, i % 3 == 0, i < 5), i);
        }
        check.refused("a thirty-first", x, x.film(0, true, true), 3);
        check.refused("of the other PART too", x, x.film(1, false, false), 3);
        check.due("thirty", x.size(8), 30);
        check.due("LAW as it was: 2 of 15", x.law(0), 13);
        x = three();
        filmed(x, 1, true, 30, 0);
        check.well("thirty of one kind", x, x.law(1), 100);
        check.refused("a thirty-first of it", x, x.film(1, true, false), 3);
        check.well("all of them turned still", x, x.law(1), 100);
    }

    private static void allButTheLast(Check check) {
        for (int parts = 1; parts <= 5; parts++) {
            StillYard x = parts("1" + ",1".repeat(parts - 1), parts == 1 ? "" : "turns 1" + ",1".repeat(parts - 2) + " ");
            for (int part = 0; part < parts - 1; part++) {
                check.well("a FILM of " + part + " of " + parts, x, x.film(part, false, true), part + 1);
            }
            check.refused("a FILM of the last of " + parts, x, x.film(parts - 1, false, true), 1);
            check.due("no FILM came", x.size(8), parts - 1);
        }
        StillYard x = three();
        filmed(x, 0, true, 1, 2);
        filmed(x, 0, false, 4, 0);
        filmed(x, 1, true, 0, 1);
        filmed(x, 1, false, 1, 1);
        check.due("5 of 7", x.law(0), 71);
        check.due("1 of 3", x.says(0, true), 33);
        check.due("4 of 4", x.says(0, false), 100);
        check.due("another PART: 1 of 3", x.law(1), 33);
        check.due("0 of 1", x.says(1, true), 0);
        check.due("1 of 2", x.says(1, false), 50);
    }

    private static void lawDownwards(Check check) {
        int[][] turnedStillLaw = {{0, 1, 0}, {1, 0, 100}, {1, 1, 50}, {1, 2, 33}, {2, 1, 66}, {1, 5, 16}, {5, 1, 83}, {1, 29, 3},
            {29, 1, 96}, {0, 30, 0}, {30, 0, 100}, {1, 6, 14}, {6, 1, 85}};
        for (int[] row : turnedStillLaw) {
            StillYard x = three();
            filmed(x, 0, false, row[0], row[1]);
            check.well(row[0] + " turned, " + row[1] + " didn't", x, x.law(0), row[2]);
            x = three();
            filmed(x, 1, true, row[0], 0);
            filmed(x, 1, false, 0, row[1]);
            check.well("whatever his shoulders: " + row[0] + " and " + row[1], x, x.law(1), row[2]);
        }
    }

    private static void shouldersSo(Check check) {
        StillYard x = three();
        filmed(x, 0, true, 2, 1);
        check.well("moved: 2 of 3, downwards", x, x.says(0, true), 66);
        filmed(x, 0, false, 0, 1);
        check.well("moved, as it was", x, x.says(0, true), 66);
        check.well("not moved: none of 1 is no refusal", x, x.says(0, false), 0);
        filmed(x, 0, false, 5, 0);
        check.well("not moved: 5 of 6, downwards", x, x.says(0, false), 83);
        x = three();
        filmed(x, 1, true, 30, 0);
        check.well("all thirty", x, x.says(1, true), 100);
    }

    private static void howMany(Check check) {
        StillYard x = three();
        check.due("none", x.size(8), 0);
        check.well("the first", x, x.film(1, false, false), 1);
        check.well("all PARTS together", x, x.film(0, true, true), 2);
        x.film(2, true, true);
        check.well("one refused doesn't count", x, x.film(0, true, true), 3);
        x.start(4);
        x.tenths(9);
        check.due("the play doesn't touch them", x.size(8), 3);
    }

    private static void filmRefused(Check check) {
        StillYard none = new StillYard();
        check.refused("no GAME", none, none.film(0, true, true), 1);
        StillYard x = three();
        for (int part : FAR_OFF) {
            check.refused("PART " + part, x, x.film(part, true, true), 1);
        }
        check.refused("the last PART", x, x.film(2, true, true), 1);
        check.refused("beyond it", x, x.film(3, true, true), 1);
        check.due("none came", x.size(8), 0);
        filmed(x, 0, true, 15, 15);
        check.refused("no room", x, x.film(1, true, true), 3);
        check.refused("no room, and no such PART", x, x.film(2, true, true), 1);
        check.refused("no room, and no PART at all", x, x.film(-1, true, true), 1);
    }

    private static void lawRefused(Check check) {
        StillYard none = new StillYard();
        check.refused("no GAME", none, none.law(0), 1);
        StillYard x = three();
        check.refused("no FILMS", x, x.law(0), 6);
        x.film(0, true, false);
        check.well("one", x, x.law(0), 0);
        check.refused("none of this PART", x, x.law(1), 6);
        for (int part : FAR_OFF) {
            check.refused("PART " + part, x, x.law(part), 1);
        }
        check.refused("the last PART", x, x.law(2), 1);
        StillYard one = parts("1", "");
        check.refused("the only PART", one, one.law(0), 1);
    }

    private static void saysRefused(Check check) {
        StillYard none = new StillYard();
        check.refused("no GAME", none, none.says(0, true), 1);
        StillYard x = three();
        check.refused("no FILMS", x, x.says(0, true), 6);
        x.film(0, true, true);
        check.well("one with shoulders", x, x.says(0, true), 100);
        check.refused("none without", x, x.says(0, false), 6);
        check.refused("none of this PART", x, x.says(1, true), 6);
        x.film(1, false, true);
        check.refused("none with shoulders", x, x.says(1, true), 6);
        check.well("one without", x, x.says(1, false), 100);
        for (int part : FAR_OFF) {
            check.refused("PART " + part, x, x.says(part, true), 1);
        }
        check.refused("the last PART", x, x.says(2, false), 1);
    }

    private static void offTogether(Check check) {
        StillYard x = three();
        check.well("no FILMS", x, x.off(), 0);
        x.film(1, true, true);
        check.well("100 by 50, the other PART doesn't count", x, x.off(), 50);
        x.film(1, true, false);
        check.well("50 by 50", x, x.off(), 0);
        x.film(1, true, false);
        check.well("33 by 50: below what is told", x, x.off(), 17);
        x.film(0, false, false);
        check.well("and 0 by 20", x, x.off(), 37);
        x = parts("1,1,1,1,1", "turns 0,100,0,100 ");
        for (int part = 0; part < 4; part++) {
            x.film(part, false, part % 2 == 0);
        }
        check.well("the most of all", x, x.off(), 400);
    }

    private static void offRefused(Check check) {
        StillYard none = new StillYard();
        check.refused("no GAME", none, none.off(), 1);
        StillYard x = parts("1", "");
        check.well("one PART: nothing to film", x, x.off(), 0);
    }

    // ---- stops

    private static StillYard stopped(int wobble, int n, int k) {
        StillYard x = Check.yard(Told.game(9, 1, 1, "1", "looks 1 eye 1 sees 0", Told.creeper("a", 0, 1, wobble, 60, 0, "brave")));
        for (int i = 0; i < n; i++) {
            x.stop(0, i < k);
        }
        return x;
    }

    private static void nineStops(Check check) {
        StillYard x = three();
        for (int i = 1; i <= 9; i++) {
            check.well("STOP " + i, x, x.stop(0, false), i);
        }
        check.refused("a tenth", x, x.stop(0, true), 3);
        check.due("SPAN as it was", x.span(0, true), 28);
        for (int i = 1; i <= 9; i++) {
            check.well("STOP " + i + " of another one", x, x.stop(1, true), i);
        }
        check.refused("a tenth of it", x, x.stop(1, false), 3);
        check.due("SPAN as it was", x.span(1, false), 72);
        StillYard y = Check.yard(Told.game(9, 1, 1, "1", "looks 1 eye 1 sees 0", Told.steady("a", 0, 1, "brave"), Told.steady("b", 0, 1, "brave"),
            Told.steady("c", 0, 1, "brave"), Told.steady("d", 0, 1, "brave"), Told.steady("e", 0, 1, "brave")));
        for (int i = 0; i < 45; i++) {
            check.well("STOP of " + i % 5, y, y.stop(i % 5, false), i / 5 + 1);
        }
    }

    private static void noneAndAll(Check check) {
        for (int n = 1; n <= 9; n++) {
            StillYard x = stopped(50, n, 0);
            check.well("none of " + n + ": 0 is in", x, x.span(0, false), 0);
            check.well("none of " + n + ": not 100", x, x.span(0, true) < 100 ? 1 : 0, 1);
            x = stopped(50, n, n);
            check.well("all of " + n + ": 100 is in", x, x.span(0, true), 100);
            check.well("all of " + n + ": not 0", x, x.span(0, false) > 0 ? 1 : 0, 1);
        }
    }

    /** One of one: 5 of 100 ways are a twentieth, and so no less; 2 of 2: 22 times 22 is 484 of 10000, 23 times 23 is 529. */
    private static void noLessThanATwentieth(Check check) {
        check.due("just a twentieth of one or more", stopped(50, 1, 1).span(0, false), 5);
        check.due("just a twentieth of none", stopped(50, 1, 0).span(0, true), 95);
        check.due("two of two", stopped(50, 2, 2).span(0, false), 23);
        check.due("none of two: 77 leave 529", stopped(50, 2, 0).span(0, true), 77);
        check.due("one of two or more: all but 97 times 97", stopped(50, 2, 1).span(0, false), 3);
        check.due("one of two or fewer", stopped(50, 2, 1).span(0, true), 97);
    }

    private static void leastAndGreatest(Check check) {
        for (int n = 1; n <= 9; n++) {
            for (int k = 0; k <= n; k++) {
                StillYard x = stopped(50, n, k);
                check.well("the least by " + k + " of " + n, x, x.span(0, false), LEAST[n - 1][k]);
                check.well("the greatest by " + k + " of " + n, x, x.span(0, true), GREATEST[n - 1][k]);
            }
        }
    }

    private static void stopRefused(Check check) {
        StillYard none = new StillYard();
        check.refused("no GAME", none, none.stop(0, true), 1);
        StillYard x = three();
        for (int creeper : FAR_OFF) {
            check.refused("creeper " + creeper, x, x.stop(creeper, true), 1);
        }
        check.refused("a third creeper", x, x.stop(2, true), 1);
        for (int i = 0; i < 9; i++) {
            x.stop(1, true);
        }
        check.refused("no room", x, x.stop(1, true), 3);
        check.refused("no room, and none such", x, x.stop(2, true), 1);
        check.well("room of the other one", x, x.stop(0, true), 1);
    }

    private static void spanRefused(Check check) {
        StillYard none = new StillYard();
        check.refused("no GAME", none, none.span(0, true), 1);
        StillYard x = three();
        check.refused("no STOPS, the least", x, x.span(0, false), 6);
        check.refused("no STOPS, the greatest", x, x.span(0, true), 6);
        x.stop(0, false);
        check.well("one STOP", x, x.span(0, false), 0);
        check.refused("none of the other one", x, x.span(1, true), 6);
        for (int creeper : FAR_OFF) {
            check.refused("creeper " + creeper, x, x.span(creeper, true), 1);
        }
        check.refused("a third creeper", x, x.span(2, false), 1);
    }

    private static void inItsSpan(Check check) {
        for (int n = 1; n <= 9; n++) {
            for (int k = 0; k <= n; k++) {
                int least = LEAST[n - 1][k];
                int greatest = GREATEST[n - 1][k];
                for (int wobble : new int[] {0, least - 1, least, greatest, greatest + 1, 100}) {
                    if (wobble >= 0 && wobble <= 100) {
                        StillYard x = stopped(wobble, n, k);
                        check.well(wobble + " by " + k + " of " + n, x, x.fits(0), wobble >= least && wobble <= greatest ? 1 : 0);
                    }
                }
            }
        }
    }

    private static void fitsRefused(Check check) {
        StillYard none = new StillYard();
        check.refused("no GAME", none, none.fits(0), 1);
        StillYard x = three();
        check.refused("no STOPS", x, x.fits(0), 6);
        x.stop(0, false);
        check.well("one STOP", x, x.fits(0), 1);
        check.refused("none of the other one", x, x.fits(1), 6);
        for (int creeper : FAR_OFF) {
            check.refused("creeper " + creeper, x, x.fits(creeper), 1);
        }
        check.refused("a third creeper", x, x.fits(2), 1);
    }
}
