import java.util.List;

/** Many games made up from numbers, each played and asked about by the class and by the Model. */
public final class ModelTest {
    private static final Check CHECK = new Check();
    private static final int GAMES = 400;
    private static final Made MADE = new Made(20261118);

    public static void main(String[] args) {
        for (int i = 0; i < GAMES; i++) {
            String text = MADE.game();
            played(text);
            asked(text);
            spans(text);
        }
        CHECK.end();
    }

    private static void same(String text, StillYard x, Model m, String when) {
        String what = when + " of " + text + ": ";
        for (int c = 0; c < m.creepers.size(); c++) {
            Model.Creeper told = m.creepers.get(c);
            CHECK.due(what + "place " + c, x.about(c, 0), told.place);
            CHECK.due(what + "into " + c, x.about(c, 1), told.into);
            CHECK.due(what + "how " + c, x.about(c, 2), told.how);
            CHECK.due(what + "seen " + c, x.about(c, 3), told.seen);
            CHECK.due(what + "wronged " + c, x.about(c, 4), told.wronged);
            CHECK.due(what + "goes " + c, x.about(c, 5), m.toucher < 0 && m.goes(told) ? 1 : 0);
            CHECK.due(what + "led " + c, x.led(c), m.creepers.indexOf(m.led().get(c)));
        }
        for (int i = 0; i < 3; i++) {
            CHECK.due(what + "said " + i, x.play(i), m.said()[i]);
        }
        CHECK.due(what + "loud", x.play(3), m.loud);
        CHECK.due(what + "looks", x.play(4), m.lookCount);
        CHECK.due(what + "tenths", x.play(5), m.spent);
        CHECK.due(what + "toucher", x.play(6), m.toucher);
        CHECK.due(what + "caught", x.play(7), m.caught());
        CHECK.due(what + "seed", x.size(5), m.seed);
    }

    private static void played(String text) {
        StillYard x = Check.yard(text);
        Model m = new Model(text);
        int seed = MADE.edged(0, 65536);
        x.start(seed);
        m.begin(seed);
        for (int i = 0; i < 10 && m.toucher < 0; i++) {
            if (MADE.some(0, 1) == 0) {
                int came = 0;
                while (came == 0) {
                    came = m.tenth(m.eyes());
                }
                CHECK.due("round of " + text, x.round(), came);
            } else {
                int n = MADE.some(1, 9);
                int gone = 0;
                while (gone < n && m.toucher < 0) {
                    m.tenth(m.eyes());
                    gone++;
                }
                CHECK.due("tenths of " + text, x.tenths(n), gone);
            }
            same(text, x, m, "play " + i);
        }
    }

    private static void asked(String text) {
        StillYard x = Check.yard(text);
        Model m = new Model(text);
        int n = m.creepers.size();
        for (int i = 0; i < MADE.some(0, 3); i++) {
            int c = MADE.some(0, n - 1);
            int place = MADE.some(0, m.length - 1);
            x.bring(c, place);
            m.creepers.get(c).place = place;
        }
        CHECK.due("watch of " + text, x.watch(), m.watch());
        int cells = MADE.some(1, m.length);
        CHECK.due("lay of " + text, x.lay(cells), m.lay(cells)[0]);
        CHECK.due("heard of " + text, x.heard(cells), m.lay(cells)[1]);
        for (int p = 0; p < m.parts.size(); p++) {
            CHECK.due("behind " + p + " of " + text, x.behind(p), m.behind(p));
            CHECK.due("both " + p + " of " + text, x.both(p), m.both(p));
        }
        for (int k = 0; k < 6; k++) {
            stands(text, x, m, MADE.some(0, n - 1), MADE.edged(0, m.length - 1), MADE.edged(0, m.total()));
        }
        int[] fair = m.fair();
        CHECK.due("fair of " + text, x.fair(), fair[0]);
        for (int c = 0; c < n; c++) {
            CHECK.due("from " + c + " of " + text, x.from(c), fair[c + 1]);
            int far = 0;
            for (int place = 0; place <= m.length; place++) {
                boolean caught = m.caughtFrom(m.creepers.get(c), place);
                CHECK.due("home of " + text, x.home(c, place), caught ? 1 : 0);
                far = caught ? far : place;
            }
            CHECK.due("far of " + text, x.far(c), far);
        }
        plays(text, x, m);
    }

    private static void stands(String text, StillYard x, Model m, int c, int place, int tenths) {
        String what = " of " + c + " from " + place + " for " + tenths + " of " + text;
        CHECK.due("risk" + what, x.risk(c, place, tenths), m.risk(c, place, tenths));
        CHECK.due("gain" + what, x.gain(c, place, tenths, false), m.gain(c, place, tenths, false));
        CHECK.due("gain hidden" + what, x.gain(c, place, tenths, true), m.gain(c, place, tenths, true));
        int open = m.best(c, place, false);
        int hidden = m.best(c, place, true);
        CHECK.due("best" + what, x.best(c, place, false), open);
        CHECK.due("best hidden" + what, x.best(c, place, true), hidden);
        CHECK.due("worth" + what, x.worth(c, place), m.gain(c, place, hidden, true) - m.gain(c, place, open, false));
        List<Integer> rests = m.rests(c, place);
        CHECK.due("rests" + what, x.rests(c, place), rests.size());
        for (int i = 0; i < rests.size(); i++) {
            CHECK.due("rest " + i + what, x.rest(c, place, i), rests.get(i));
        }
        CHECK.refused("rest beyond" + what, x, x.rest(c, place, rests.size()), 1);
    }

    private static void plays(String text, StillYard x, Model m) {
        int seed = MADE.some(0, 1) == 0 ? MADE.some(0, 65536) : 65530;
        int n = MADE.some(1, 20);
        int most = MADE.some(0, 3) == 0 ? MADE.some(1, 999) : MADE.some(1, 120);
        x.start(seed);
        x.tenths(1);
        int now = x.size(5);
        int[] sums = m.plays(now, n, most, m.eyes());
        CHECK.due("lasts of " + text, x.lasts(n, most), sums[0]);
        CHECK.due("sent of " + text, x.sent(n, most), sums[1]);
        int best = 0;
        int fewest = 99;
        for (int c = 0; c <= m.creepers.size(); c++) {
            if (c < m.creepers.size()) {
                CHECK.due("wins of " + text, x.wins(c, n, most), sums[3 + c]);
            }
            int touched = m.plays(now, n, most, c)[2];
            best = touched < fewest ? c : best;
            fewest = Math.min(fewest, touched);
        }
        CHECK.due("looking of " + text, x.looking(n, most), best);
        CHECK.due("the play goes on as it was", x.play(5), 1);
        CHECK.due("and its seed", x.size(5), now);
    }

    private static void spans(String text) {
        StillYard x = Check.yard(text);
        Model m = new Model(text);
        int c = MADE.some(0, m.creepers.size() - 1);
        int n = MADE.some(1, 9);
        int wobbled = 0;
        for (int i = 0; i < n; i++) {
            boolean wobbles = MADE.some(0, 2) == 0;
            wobbled += wobbles ? 1 : 0;
            CHECK.due("stop", x.stop(c, wobbles), i + 1);
        }
        int least = 0;
        while (!Model.inSpan(n, wobbled, least)) {
            least++;
        }
        int greatest = 100;
        while (!Model.inSpan(n, wobbled, greatest)) {
            greatest--;
        }
        CHECK.due("least of " + wobbled + " in " + n, x.span(c, false), least);
        CHECK.due("greatest of " + wobbled + " in " + n, x.span(c, true), greatest);
        int told = m.creepers.get(c).wobble;
        CHECK.due("fits", x.fits(c), told >= least && told <= greatest ? 1 : 0);
    }
}
