/** Texts of games, and draws. */
final class Told {
    static final int SEEDS = 65537;
    static final int ANY = -1;

    private Told() {
    }

    static String game(int length, int lanes, int runs, String verse, String one, String... lines) {
        StringBuilder text = new StringBuilder("yard long " + length + " lanes " + lanes + " runs " + runs + ";verse " + verse
            + ";one " + one);
        for (String line : lines) {
            text.append(";").append(line);
        }
        return text.toString();
    }

    static String gravel(int lane, int from, int to, int loud) {
        return "gravel lane " + lane + " from " + from + " to " + to + " loud " + loud;
    }

    static String creeper(String name, int lane, int pace, int wobble, int tall, int expects, String way) {
        return "creeper " + name + " lane " + lane + " pace " + pace + " wobble " + wobble + " tall " + tall
            + " expects " + expects + " " + way;
    }

    /** One that never wobbles, is of middle size and never expects to be wronged. */
    static String steady(String name, int lane, int pace, String way) {
        return creeper(name, lane, pace, 0, 120, 0, way);
    }

    static int seedBehind(int seed, int draws) {
        long s = seed;
        for (int i = 0; i < draws; i++) {
            s = (75 * s + 74) % SEEDS;
        }
        return (int) s;
    }

    /** The least SEED from which the draws mod 100 are these, one after the other; ANY stands for any. */
    static int seedFor(int... draws) {
        for (int seed = 0; seed < SEEDS; seed++) {
            boolean fits = true;
            for (int i = 0; i < draws.length && fits; i++) {
                fits = draws[i] == ANY || seedBehind(seed, i + 1) % 100 == draws[i];
            }
            if (fits) {
                return seed;
            }
        }
        throw new IllegalStateException("no such seed");
    }

    /** The least SEED from which one draw after the other mod 100 is below so much, or isn't. */
    static int seedBelow(int bound, boolean... below) {
        for (int seed = 0; seed < SEEDS; seed++) {
            boolean fits = true;
            for (int i = 0; i < below.length && fits; i++) {
                fits = seedBehind(seed, i + 1) % 100 < bound == below[i];
            }
            if (fits) {
                return seed;
            }
        }
        throw new IllegalStateException("no such seed");
    }
}
