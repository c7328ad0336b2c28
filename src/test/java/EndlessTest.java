import java.util.NoSuchElementException;

/** Any calls in any state: nothing is thrown but by led, and the same calls give the same answers. */
public final class EndlessTest {
    private static final Check CHECK = new Check();
    private static final int RUNS = 120;
    private static final int CALLS = 512;
    private static final int[] EDGES = {Integer.MIN_VALUE, -1, 0, 1, 2, 3, 4, 5, 6, 7, 9, 20, 40, 100, 999, 65536, Integer.MAX_VALUE};
    private static final String[] BITS = {"yard ", "long ", "lanes ", "runs ", "verse ", "one ", "turns ", "looks ", "eye ",
        "sees ", "gravel ", "lane ", "from ", "to ", "loud ", "creeper ", "pace ", "wobble ", "tall ", "expects ", "brave ",
        "safe ", "sly ", "; ", ", ", "1 ", "9 ", "60 ", "ann "};
    private static final String[] TEXTS = {
        "yard long 6 lanes 2 runs 2;verse 2 3,4,3;one turns 50,20 looks 6 eye 3 sees 30;gravel lane 0 from 2 to 3 loud 30;"
            + "creeper ann lane 0 pace 2 wobble 50 tall 120 expects 5 brave;creeper bob lane 0 pace 3 wobble 100 tall 150 "
            + "expects 9 safe 1;creeper cis lane 1 pace 4 wobble 0 tall 100 expects 0 sly 2",
        "yard long 40 lanes 6 runs 9;verse 20 20 20 20,20 20 20 20,20 20 20 20,20 20 20 20,20 20 20 20;"
            + "one turns 0,0,0,0 looks 60 eye 1 sees 0;creeper a lane 5 pace 20 wobble 100 tall 199 expects 100 brave;"
            + "creeper b lane 5 pace 20 wobble 100 tall 199 expects 100 sly 20;creeper c lane 5 pace 1 wobble 0 tall 60 "
            + "expects 0 safe 5;creeper d lane 0 pace 7 wobble 1 tall 60 expects 1 sly 1;creeper e lane 1 pace 19 wobble 99 "
            + "tall 61 expects 99 safe 1",
        "yard long 4 lanes 1 runs 1;verse 1;one looks 1 eye 20 sees 100;creeper z lane 0 pace 20 wobble 0 tall 60 expects 0 brave"};
    private static long chance;
    private static int left;

    public static void main(String[] args) {
        for (int run = 0; run < RUNS; run++) {
            long first = answers(run);
            CHECK.due("run " + run + " again", answers(run), first);
        }
        CHECK.end();
    }

    private static int some(int n) {
        chance = chance * 6364136223846793005L + 1442695040888963407L;
        return (int) ((chance >>> 33) % n);
    }

    private static int number() {
        return some(4) == 0 ? EDGES[some(EDGES.length)] : some(7);
    }

    private static long answers(int run) {
        chance = run;
        StillYard x = new StillYard();
        long sum = 0;
        left = CALLS - 2;
        while (left > 0) {
            sum = sum * 31 + call(x);
            left--;
        }
        return sum;
    }

    private static long call(StillYard x) {
        int kind = some(12);
        if (kind == 0) {
            return text(x);
        }
        return kind < 6 ? playCall(x) : askCall(x);
    }

    private static long text(StillYard x) {
        String text = TEXTS[some(TEXTS.length)];
        if (some(2) == 0) {
            int cut = some(text.length());
            text = text.substring(0, cut) + BITS[some(BITS.length)] + text.substring(cut);
        }
        if (some(6) == 0) {
            return x.feed(some(1 << 30) * 4, -1, number(), number(), number());
        }
        left -= text.length() / 20 + 4;
        if (left <= 0) {
            return 0;
        }
        Check.feed(x, text);
        return x.game(some(8) == 0 ? number() : Math.min(text.length(), x.size(6))) * 1000L + x.fault() * 7 + x.where();
    }

    private static long playCall(StillYard x) {
        switch (some(10)) {
            case 0: return x.start(number()) ? 1 : 0;
            case 1: return x.tenths(number());
            case 2: return x.round();
            case 3: return x.bring(number(), number()) ? 1 : 0;
            case 4: return x.right(number()) ? 1 : 0;
            case 5: return x.about(number(), number());
            case 6: return x.play(number());
            case 7: return x.often(number());
            case 8: return x.mark();
            default: return x.back(number()) ? 1 : 0;
        }
    }

    private static long askCall(StillYard x) {
        boolean yes = some(2) == 0;
        switch (some(31)) {
            case 0: return x.behind(number());
            case 1: return x.ways();
            case 2: return x.risk(number(), number(), number());
            case 3: return x.gain(number(), number(), number(), yes);
            case 4: return x.best(number(), number(), yes);
            case 5: return x.worth(number(), number());
            case 6: return x.rests(number(), number());
            case 7: return x.rest(number(), number(), number());
            case 8: return x.watch();
            case 9: return x.both(number());
            case 10: return x.wins(number(), number(), number());
            case 11: return x.lasts(number(), number());
            case 12: return x.sent(number(), number());
            case 13: return x.looking(number(), number());
            case 14: return x.film(number(), yes, some(2) == 0);
            case 15: return x.law(number());
            case 16: return x.says(number(), yes);
            case 17: return x.off();
            case 18: return x.stop(number(), yes);
            case 19: return x.span(number(), yes);
            case 20: return x.fits(number());
            case 21: return x.home(number(), number());
            case 22: return x.far(number());
            case 23: return x.fair();
            case 24: return x.from(number());
            case 25: return x.lay(number());
            case 26: return x.heard(number());
            case 27: return x.loud(number(), number());
            case 28: return led(x, number());
            case 29: return x.size(number());
            default:
                left--;
                return x.creeper(number(), number()) * 10L + x.trouble();
        }
    }

    private static long led(StillYard x, int i) {
        try {
            return x.led(i);
        } catch (NoSuchElementException e) {
            return -7;
        }
    }
}
