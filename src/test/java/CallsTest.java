import java.util.NoSuchElementException;

/** Any calls one behind the other, on the class and on the Twin: the same answers, TROUBLE, FAULT and place. */
public final class CallsTest {
    private static final Check CHECK = new Check();
    private static final Made MADE = new Made(20261120);
    private static final int RUNS = 500;
    private static final int MOST_CALLS = 500;
    private static final int[] FAR_OFF = {Integer.MIN_VALUE, -1000, -2, 8, 31, 41, 101, 1000, 65536, 65537, Integer.MAX_VALUE};
    private static StillYard x;
    private static Twin twin;
    private static int calls;

    public static void main(String[] args) {
        for (int run = 0; run < RUNS; run++) {
            x = new StillYard();
            twin = new Twin();
            calls = 0;
            if (!MADE.oneOf(8)) {
                text();
            }
            while (calls < MOST_CALLS - 60) {
                call();
                calls += 7;
                CHECK.due("trouble", x.trouble(), twin.trouble());
                CHECK.due("where", x.where(), twin.where());
                CHECK.due("fault", x.fault(), twin.fault());
                CHECK.due("SEED", x.size(5), twin.size(5));
                if (CHECK.wrong() > 0) {
                    System.out.println("in run " + run + " behind so many calls: " + calls);
                    CHECK.end();
                }
            }
        }
        CHECK.end();
    }

    private static void text() {
        String text = MADE.game();
        if (MADE.oneOf(6)) {
            int cut = MADE.some(0, text.length() - 1);
            text = text.substring(0, cut) + (char) MADE.some(32, 126) + text.substring(cut + 1);
        }
        for (int i = 0; i < text.length(); i += 20) {
            String twenty = (text + " ".repeat(20)).substring(i, i + 20);
            CHECK.due("feed", x.feed(Check.four(twenty, 0), Check.four(twenty, 4), Check.four(twenty, 8), Check.four(twenty, 12),
                Check.four(twenty, 16)), twin.feed(twenty));
            calls++;
        }
        int n = MADE.oneOf(8) ? number(900) : Math.min((int) twin.size(6), text.length());
        CHECK.due("game(" + n + ") of " + text, x.game(n), twin.game(n));
        CHECK.due("tape", x.size(6), twin.size(6));
        calls += 2;
    }

    private static int number(int most) {
        return MADE.oneOf(16) ? FAR_OFF[MADE.some(0, FAR_OFF.length - 1)] : MADE.oneOf(10) ? MADE.some(-1, most + 1) : MADE.some(0, most);
    }

    private static int someCreeper() {
        return number((int) Math.max(0, twin.size(4) - 1));
    }

    private static int somePlace() {
        return number((int) Math.max(0, twin.size(0) - 1));
    }

    private static int somePart() {
        return number((int) Math.max(0, twin.size(2) - 2));
    }

    private static int someTenths() {
        return number((int) twin.size(9));
    }

    private static boolean yes() {
        return MADE.oneOf(2);
    }

    private static void same(String what, long got, long want) {
        CHECK.due(what, got, want);
    }

    private static void same(String what, boolean got, long want) {
        CHECK.due(what, got ? 1 : 0, want);
    }

    private static void call() {
        switch (MADE.some(0, 10)) {
            case 0, 1, 2, 3 -> move();
            case 4, 5 -> seePlay();
            case 6 -> askOdds();
            case 7 -> askPlays();
            case 8, 9 -> note();
            default -> askHome();
        }
        if (MADE.oneOf(twin.size(4) > 0 ? 150 : 20)) {
            text();
        }
        if (MADE.oneOf(3) && twin.isOver()) {
            start();
        }
        if (MADE.oneOf(3)) {
            rightOne();
        }
    }

    private static void start() {
        int seed = MADE.oneOf(8) ? number(65536) : MADE.some(0, 65536);
        same("start " + seed, x.start(seed), twin.start(seed));
    }

    /** The third is kept till one is WRONGED, to be put right in the play that comes back. */
    private static void mark() {
        if (twin.size(7) != 2 || twin.isWronged(0) || MADE.oneOf(20)) {
            same("mark", x.mark(), twin.mark());
        }
    }

    /** Who is WRONGED is rare, and must be met to be put right. */
    private static void rightOne() {
        for (int c = 0; c < twin.size(4); c++) {
            if (twin.isWronged(c)) {
                same("right " + c, x.right(c), twin.right(c));
                calls++;
            }
        }
    }

    private static void move() {
        int a = someCreeper();
        int place = somePlace();
        switch (MADE.some(0, 11)) {
            case 0 -> start();
            case 1, 2, 3, 4 -> {
                int n = MADE.oneOf(8) ? number(100) : MADE.some(1, 9);
                same("tenths " + n, x.tenths(n), twin.tenths(n));
            }
            case 5, 6, 7 -> same("round", x.round(), twin.round());
            case 8 -> same("bring " + a + ", " + place, x.bring(a, place), twin.bring(a, place));
            case 9 -> same("right " + a, x.right(a), twin.right(a));
            case 10 -> mark();
            default -> {
                int mark = number(2);
                same("back " + mark, x.back(mark), twin.back(mark));
                rightOne();
            }
        }
    }

    private static void seePlay() {
        int a = someCreeper();
        int what = number(10);
        switch (MADE.some(0, 6)) {
            case 0, 1 -> {
                int of = MADE.oneOf(9) ? what : MADE.some(0, 5);
                same("about " + a + ", " + of, x.about(a, of), twin.about(a, of));
            }
            case 2, 3 -> same("play " + what, x.play(what), twin.play(what));
            case 4 -> same("often " + a, x.often(a), twin.often(a));
            case 5 -> same("led " + a, led(a), twin.led(a));
            default -> {
                same("size " + what, x.size(what), twin.size(what));
                same("creeper " + a + ", " + what, x.creeper(a, what), twin.creeper(a, what));
            }
        }
    }

    private static void askOdds() {
        int a = someCreeper();
        int place = somePlace();
        int tenths = someTenths();
        boolean yes = yes();
        int n = number(5);
        switch (MADE.some(0, 9)) {
            case 0 -> same("behind " + n, x.behind(n), twin.behind(n));
            case 1 -> same("ways", x.ways(), twin.ways());
            case 2 -> same("risk", x.risk(a, place, tenths), twin.risk(a, place, tenths));
            case 3 -> same("gain", x.gain(a, place, tenths, yes), twin.gain(a, place, tenths, yes));
            case 4 -> same("best", x.best(a, place, yes), twin.best(a, place, yes));
            case 5 -> same("worth", x.worth(a, place), twin.worth(a, place));
            case 6 -> same("rests", x.rests(a, place), twin.rests(a, place));
            case 7 -> same("rest " + n, x.rest(a, place, n), twin.rest(a, place, n));
            case 8 -> same("watch", x.watch(), twin.watch());
            default -> same("both " + n, x.both(n), twin.both(n));
        }
    }

    private static void askPlays() {
        int a = someCreeper();
        int n = MADE.oneOf(3) ? number(20) : MADE.some(1, 4);
        int most = MADE.oneOf(3) ? number(999) : MADE.some(1, 90);
        switch (MADE.some(0, 3)) {
            case 0 -> same("wins " + n + ", " + most, x.wins(a, n, most), twin.wins(a, n, most));
            case 1 -> same("lasts " + n + ", " + most, x.lasts(n, most), twin.lasts(n, most));
            case 2 -> same("sent " + n + ", " + most, x.sent(n, most), twin.sent(n, most));
            default -> same("looking " + n + ", " + most, x.looking(n, most), twin.looking(n, most));
        }
    }

    private static void note() {
        int a = someCreeper();
        int part = somePart();
        boolean yes = yes();
        boolean turned = yes();
        switch (MADE.some(0, 10)) {
            case 0, 1, 2, 3 -> same("film " + part, x.film(part, yes, turned), twin.film(part, yes, turned));
            case 4 -> same("law " + part, x.law(part), twin.law(part));
            case 5 -> same("says " + part, x.says(part, yes), twin.says(part, yes));
            case 6 -> same("off", x.off(), twin.off());
            case 7, 8 -> same("stop " + a, x.stop(a, yes), twin.stop(a, yes));
            case 9 -> same("span " + a, x.span(a, yes), twin.span(a, yes));
            default -> same("fits " + a, x.fits(a), twin.fits(a));
        }
    }

    private static void askHome() {
        int a = someCreeper();
        int place = MADE.oneOf(4) ? (int) twin.size(0) : somePlace();
        int lane = number((int) Math.max(0, twin.size(1) - 1));
        switch (MADE.some(0, 7)) {
            case 0 -> same("home " + a + ", " + place, x.home(a, place), twin.home(a, place));
            case 1 -> same("far " + a, x.far(a), twin.far(a));
            case 2 -> same("fair", x.fair(), twin.fair());
            case 3 -> same("from " + a, x.from(a), twin.from(a));
            case 4 -> same("lay " + place, x.lay(place), twin.lay(place));
            case 5 -> same("heard " + place, x.heard(place), twin.heard(place));
            default -> same("loud " + lane + ", " + place, x.loud(lane, place), twin.loud(lane, place));
        }
    }

    private static long led(int i) {
        try {
            return x.led(i);
        } catch (NoSuchElementException e) {
            return Twin.NOT_LED;
        }
    }
}
