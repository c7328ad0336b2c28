import java.math.BigInteger;
import java.util.ArrayList;
import java.util.Arrays;
import java.util.Comparator;
import java.util.List;

/** A second, slow telling of the document's terms, made from lists, to compare the class with. */
final class Model {
    static final class Creeper {
        int lane, pace, wobble, tall, expects, way, n;
        int place, into, how, seen, wronged, stood, wobbles;
        boolean went;
    }

    int length, lanes, runs, looks, eye, sees;
    final List<int[]> parts = new ArrayList<>();
    final List<Integer> chances = new ArrayList<>();
    final List<int[]> gravels = new ArrayList<>();
    final List<Creeper> creepers = new ArrayList<>();
    int seed, said, loud, lookCount, spent, toucher;

    /** Takes well told texts alone, with a blank between all tokens. */
    Model(String text) {
        for (String line : text.split(";")) {
            String[] t = line.trim().replace(",", " , ").split(" +");
            switch (t[0]) {
                case "yard" -> { length = number(t, "long"); lanes = number(t, "lanes"); runs = number(t, "runs"); }
                case "verse" -> readVerse(line.trim().substring(5));
                case "one" -> readOne(line.trim(), t);
                case "gravel" -> gravels.add(new int[] {number(t, "lane"), number(t, "from"), number(t, "to"), number(t, "loud")});
                default -> creepers.add(readCreeper(Arrays.copyOfRange(t, 2, t.length)));
            }
        }
        begin(0);
    }

    private static int number(String[] t, String behind) {
        for (int i = 0; i + 1 < t.length; i++) {
            if (t[i].equals(behind)) {
                return Integer.parseInt(t[i + 1]);
            }
        }
        return 0;
    }

    private void readVerse(String text) {
        for (String part : text.split(",")) {
            String[] t = part.trim().split(" +");
            int[] row = new int[t.length];
            for (int i = 0; i < row.length; i++) {
                row[i] = Integer.parseInt(t[i]);
            }
            parts.add(row);
        }
    }

    private void readOne(String line, String[] t) {
        looks = number(t, "looks");
        eye = number(t, "eye");
        sees = number(t, "sees");
        if (line.contains("turns")) {
            for (String w : line.substring(line.indexOf("turns") + 5, line.indexOf("looks")).split(",")) {
                chances.add(Integer.parseInt(w.trim()));
            }
        }
    }

    private static Creeper readCreeper(String[] t) {
        Creeper c = new Creeper();
        c.lane = number(t, "lane");
        c.pace = number(t, "pace");
        c.wobble = number(t, "wobble");
        c.tall = number(t, "tall");
        c.expects = number(t, "expects");
        c.n = number(t, "safe") + number(t, "sly");
        c.way = number(t, "safe") > 0 ? 1 : number(t, "sly") > 0 ? 2 : 0;
        return c;
    }

    int tenthsOf(int part) {
        int sum = 0;
        for (int s : parts.get(part)) {
            sum += s;
        }
        return sum;
    }

    int endOf(int part) {
        return part < 0 ? 0 : endOf(part - 1) + tenthsOf(part);
    }

    int total() {
        return endOf(parts.size() - 1);
    }

    int eyes() {
        return looks / eye;
    }

    void begin(int s) {
        seed = s;
        said = 0;
        loud = 0;
        lookCount = 0;
        spent = 0;
        toucher = -2;
        for (Creeper c : creepers) {
            c.place = 0;
            c.into = 0;
            c.how = -2;
            c.seen = 0;
            c.wronged = 0;
        }
    }

    int draw() {
        seed = (int) ((75L * seed + 74) % 65537);
        return seed % 100;
    }

    boolean goes(Creeper c) {
        int part = 0;
        while (endOf(part) <= said) {
            part++;
        }
        int inPart = said - endOf(part - 1);
        return c.way == 0 || c.way == 1 && part < c.n || c.way == 2 && inPart + c.n < tenthsOf(part);
    }

    /** 0 the part, 1 the syllable, 2 tenths of it, all by what is said. */
    int[] said() {
        int left = said;
        for (int p = 0; p < parts.size(); p++) {
            int[] part = parts.get(p);
            for (int s = 0; s < part.length; s++) {
                if (left < part[s] || left == part[s] && toucher >= 0 && s == part.length - 1) {
                    return new int[] {p, s, left};
                }
                left -= part[s];
            }
        }
        return new int[3];
    }

    int loudAt(int lane, int cell) {
        return gravels.stream().filter(g -> g[0] == lane && g[1] <= cell && cell <= g[2]).mapToInt(g -> g[3]).max().orElse(0);
    }

    /** 0 goes on, 1 he looked, 2 over. */
    int tenth(int eyes) {
        for (Creeper c : creepers) {
            c.went = goes(c);
            if (c.went && ++c.into == c.pace) {
                c.into = 0;
                c.place++;
                loud += loudAt(c.lane, c.place);
            }
        }
        said++;
        spent++;
        for (int i = creepers.size() - 1; i >= 0; i--) {
            if (creepers.get(i).place == length) {
                toucher = i;
            }
        }
        if (toucher >= 0) {
            return 2;
        }
        for (int p = 0; p < parts.size(); p++) {
            if (said == endOf(p) && (p == parts.size() - 1 || draw() < chances.get(p) + loud)) {
                look(eyes);
                return 1;
            }
        }
        return 0;
    }

    private void look(int eyes) {
        for (Creeper c : creepers) {
            c.wobbles = 0;
            c.how = 3;
            c.stood = c.place;
            if (c.went && c.into > 0) {
                c.wobbles = draw() < c.wobble ? c.into * 100 / c.pace : 0;
                c.into = 0;
            }
        }
        List<Creeper> order = led();
        for (Creeper c : order.subList(0, Math.min(eyes, order.size()))) {
            if (creepers.stream().anyMatch(o -> o.lane == c.lane && o.place > c.place && o.tall > c.tall)) {
                c.how = 2;
            } else if (c.wobbles > 0) {
                c.how = c.wobbles >= sees + length - c.place ? 4 : 1;
            } else {
                c.how = draw() < c.expects ? 5 : 0;
            }
        }
        for (Creeper c : creepers) {
            c.seen += c.how == 4 ? 1 : 0;
            c.wronged += c.how == 5 ? 1 : 0;
            c.place = c.how == 4 || c.how == 5 ? 0 : c.place;
        }
        said = 0;
        loud = 0;
        lookCount++;
    }

    List<Creeper> led() {
        List<Creeper> order = new ArrayList<>(creepers);
        order.sort(Comparator.comparingInt((Creeper c) -> -c.place));
        return order;
    }

    boolean caughtFrom(Creeper c, int place) {
        return Math.ceil(place * c.pace / 2.0) > length * runs;
    }

    int caught() {
        int bits = 0;
        for (int i = 0; i < creepers.size() && toucher >= 0; i++) {
            if (i != toucher && caughtFrom(creepers.get(i), creepers.get(i).place)) {
                bits += 1 << i;
            }
        }
        return bits;
    }

    /** Ways of the draws by which he turns behind a part first: every yes and no behind each part, weighed. */
    long behind(int part) {
        int draws = parts.size() - 1;
        long sum = 0;
        for (int bits = 0; bits < 1 << draws; bits++) {
            long weight = 1;
            int first = draws;
            for (int p = draws - 1; p >= 0; p--) {
                boolean turns = (bits >> p & 1) == 1;
                weight *= turns ? chances.get(p) : 100 - chances.get(p);
                first = turns ? p : first;
            }
            sum += first == part ? weight : 0;
        }
        return sum;
    }

    /** Place and rest of a creeper that goes x tenths till he turns behind so many. */
    private int[] stands(Creeper c, int from, int x, int end) {
        int place = from;
        int into = 0;
        for (int t = 1; t <= Math.min(x, end); t++) {
            into++;
            if (into == c.pace) {
                into = 0;
                place++;
            }
        }
        if (place >= length) {
            return new int[] {length, 0};
        }
        return new int[] {place, x > end ? into : 0};
    }

    long risk(int creeper, int from, int x) {
        Creeper c = creepers.get(creeper);
        long sum = 0;
        for (int p = 0; p < parts.size(); p++) {
            int[] s = stands(c, from, x, endOf(p));
            boolean sees = s[1] > 0 && s[1] * 100 / c.pace >= this.sees + length - s[0];
            sum += sees ? behind(p) * c.wobble : 0;
        }
        return sum;
    }

    long gainOf(int creeper, int from, int x, int part, boolean hidden) {
        Creeper c = creepers.get(creeper);
        long sum = 0;
        int[] s = stands(c, from, x, endOf(part));
        for (int w = 0; w < 100; w++) {
            boolean sees = !hidden && w < c.wobble && s[1] > 0 && s[1] * 100 / c.pace >= this.sees + length - s[0];
            sum += (sees ? 0 : s[0]) - from;
        }
        return sum;
    }

    long gain(int creeper, int from, int x, boolean hidden) {
        long sum = 0;
        for (int p = 0; p < parts.size(); p++) {
            sum += behind(p) * gainOf(creeper, from, x, p, hidden);
        }
        return sum;
    }

    int best(int creeper, int from, boolean hidden) {
        int best = total();
        for (int x = total() - 1; x >= 0; x--) {
            if (gain(creeper, from, x, hidden) >= gain(creeper, from, best, hidden)) {
                best = x;
            }
        }
        return best;
    }

    List<Integer> rests(int creeper, int from) {
        List<Integer> found = new ArrayList<>();
        int n = parts.size();
        for (int his = 0; his < n; his++) {
            long most = Long.MIN_VALUE;
            for (int its = 0; its < n; its++) {
                most = Math.max(most, gainOf(creeper, from, endOf(its), his, false));
            }
            for (int its = 0; its < n; its++) {
                long least = Long.MAX_VALUE;
                for (int other = 0; other < n; other++) {
                    least = Math.min(least, gainOf(creeper, from, endOf(its), other, false));
                }
                long gain = gainOf(creeper, from, endOf(its), his, false);
                if (gain == most && gain == least) {
                    found.add(his * 10 + its);
                }
            }
        }
        return found;
    }

    int watch() {
        int best = -1;
        long most = -1;
        for (int bits = (1 << creepers.size()) - 1; bits >= 0; bits--) {
            if (Integer.bitCount(bits) != Math.min(eyes(), creepers.size())) {
                continue;
            }
            long sum = 0;
            for (int i = 0; i < creepers.size(); i++) {
                Creeper c = creepers.get(i);
                int x = c.way == 0 ? total() : c.way == 1 ? endOf(Math.min(c.n, parts.size()) - 1) : Math.max(0, tenthsOf(0) - c.n);
                sum += (bits >> i & 1) == 1 ? risk(i, c.place, x) : 0;
            }
            if (sum >= most) {
                most = sum;
                best = bits;
            }
        }
        return best;
    }

    long both(int n) {
        long sum = 0;
        for (int p = n; p < parts.size(); p++) {
            sum += behind(p);
        }
        return sum * sum;
    }

    /** What comes of so many plays: 0 tenths, 1 sent back, 2 touched, 3 and on who touched. The play is lost. */
    int[] plays(int first, int n, int most, int eyes) {
        int[] sums = new int[8];
        for (int i = 0; i < n; i++) {
            begin((first + i) % 65537);
            int t = 0;
            while (t < most && tenth(eyes) != 2) {
                t++;
            }
            sums[0] += spent;
            creepers.forEach(c -> sums[1] += c.seen + c.wronged);
            if (toucher >= 0) {
                sums[2]++;
                sums[3 + toucher]++;
            }
        }
        return sums;
    }

    static boolean inSpan(int n, int k, int w) {
        BigInteger more = BigInteger.ZERO;
        BigInteger fewer = BigInteger.ZERO;
        for (int bits = 0; bits < 1 << n; bits++) {
            int some = Integer.bitCount(bits);
            BigInteger ways = BigInteger.valueOf(w).pow(some).multiply(BigInteger.valueOf(100 - w).pow(n - some));
            more = some >= k ? more.add(ways) : more;
            fewer = some <= k ? fewer.add(ways) : fewer;
        }
        BigInteger all = BigInteger.valueOf(100).pow(n);
        BigInteger twenty = BigInteger.valueOf(20);
        return more.multiply(twenty).compareTo(all) >= 0 && fewer.multiply(twenty).compareTo(all) >= 0;
    }

    /** 0 how far apart, then the places. */
    int[] fair() {
        int[] best = null;
        int bestSum = 0;
        int base = Math.min(7, length - 1) + 1;
        int n = creepers.size();
        int[] tried = new int[n];
        while (true) {
            int sum = 0;
            int least = Integer.MAX_VALUE;
            int greatest = Integer.MIN_VALUE;
            for (int i = 0; i < n; i++) {
                int away = (length - tried[i]) * creepers.get(i).pace;
                least = Math.min(least, away);
                greatest = Math.max(greatest, away);
                sum += tried[i];
            }
            if (best == null || greatest - least < best[0] || greatest - least == best[0] && sum < bestSum) {
                best = new int[n + 1];
                best[0] = greatest - least;
                System.arraycopy(tried, 0, best, 1, n);
                bestSum = sum;
            }
            int i = n - 1;
            while (i >= 0 && tried[i] == base - 1) {
                tried[i--] = 0;
            }
            if (i < 0) {
                return best;
            }
            tried[i]++;
        }
    }

    /** 0 the strip, 1 how many steps. */
    int[] lay(int n) {
        int[] best = {0, -1};
        for (int lane = 0; lane < lanes; lane++) {
            for (int first = 1; first <= length - n + 1; first++) {
                int steps = 0;
                for (Creeper c : creepers) {
                    for (int cell = c.place + 1; cell <= length && c.lane == lane; cell++) {
                        steps += cell >= first && cell < first + n && loudAt(lane, cell) == 0 ? 1 : 0;
                    }
                }
                if (steps > best[1]) {
                    best = new int[] {100 * lane + first, steps};
                }
            }
        }
        return best;
    }
}
