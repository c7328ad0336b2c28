import java.util.ArrayList;
import java.util.List;
import java.util.Map;
import java.util.TreeMap;

/** A second telling of the face: what each call answers and refuses, by the Model and the FaultModel. */
final class Twin {
    static final long NOT_LED = -7;
    private static final long NO_GAIN = Long.MIN_VALUE;

    private record Film(int part, boolean shoulders, boolean turned) { }

    private String tape = "";
    private Model m;
    private final List<int[]> marks = new ArrayList<>();
    private final List<Film> films = new ArrayList<>();
    private final Map<Integer, List<Boolean>> stops = new TreeMap<>();
    private int trouble;
    private int fault;
    private int place = -1;

    private long well(long answer) {
        trouble = 0;
        return answer;
    }

    private long no(int number) {
        trouble = number;
        return -1;
    }

    private long denied(int number) {
        trouble = number;
        return 0;
    }

    private boolean isCreeper(int c) {
        return m != null && c >= 0 && c < m.creepers.size();
    }

    private boolean isFilmed(int part) {
        return m != null && part >= 0 && part < m.parts.size() - 1;
    }

    private boolean belowWall(int at) {
        return at >= 0 && at < m.length;
    }

    boolean isOver() {
        return m != null && m.toucher >= 0;
    }

    boolean isWronged(int c) {
        return isCreeper(c) && m.creepers.get(c).how == 5;
    }

    // ---- the game

    long feed(String twenty) {
        if (tape.length() + 20 > 900) {
            return -1;
        }
        tape += twenty;
        return tape.length();
    }

    long game(int n) {
        if (n < 0 || n > tape.length()) {
            return no(2);
        }
        FaultModel read = new FaultModel(tape.substring(0, n));
        tape = "";
        fault = read.fault();
        place = read.place();
        if (fault > 0) {
            return no(4);
        }
        m = new Model(read.plain());
        marks.clear();
        films.clear();
        stops.clear();
        return well(m.creepers.size());
    }

    long fault() {
        return fault;
    }

    long where() {
        return trouble == 4 ? place : -1;
    }

    long trouble() {
        return trouble;
    }

    // ---- the play

    long start(int seed) {
        if (m == null) {
            return denied(1);
        }
        if (seed < 0 || seed > 65536) {
            return denied(2);
        }
        m.begin(seed);
        return well(1);
    }

    long tenths(int n) {
        if (m == null) {
            return no(1);
        }
        if (n < 1 || n > 100) {
            return no(2);
        }
        if (isOver()) {
            return no(6);
        }
        int before = m.spent;
        while (m.spent < before + n && !isOver()) {
            m.tenth(m.eyes());
        }
        return well(m.spent - before);
    }

    long round() {
        if (m == null) {
            return no(1);
        }
        if (isOver()) {
            return no(6);
        }
        int came = 0;
        while (came == 0) {
            came = m.tenth(m.eyes());
        }
        return well(came);
    }

    long bring(int c, int to) {
        if (!isCreeper(c)) {
            return denied(1);
        }
        if (!belowWall(to)) {
            return denied(2);
        }
        if (isOver()) {
            return denied(6);
        }
        m.creepers.get(c).place = to;
        m.creepers.get(c).into = 0;
        return well(1);
    }

    long right(int c) {
        if (!isCreeper(c)) {
            return denied(1);
        }
        if (isOver()) {
            return denied(6);
        }
        Model.Creeper told = m.creepers.get(c);
        if (told.how != 5) {
            return denied(5);
        }
        told.place = told.stood;
        told.into = 0;
        told.how = 0;
        told.wronged--;
        return well(1);
    }

    long about(int c, int what) {
        if (!isCreeper(c) || what < 0 || what > 5) {
            return no(1);
        }
        Model.Creeper told = m.creepers.get(c);
        int goes = !isOver() && m.goes(told) ? 1 : 0;
        return well(new int[] {told.place, told.into, told.how, told.seen, told.wronged, goes}[what]);
    }

    long play(int what) {
        if (m == null || what < 0 || what > 7) {
            return no(1);
        }
        int[] said = m.said();
        return well(new int[] {said[0], said[1], said[2], m.loud, m.lookCount, m.spent, m.toucher, m.caught()}[what]);
    }

    long often(int c) {
        if (!isCreeper(c)) {
            return no(1);
        }
        Model.Creeper told = m.creepers.get(c);
        int all = told.seen + told.wronged;
        return all == 0 ? no(6) : well(100 * told.wronged / all);
    }

    private int[] kept() {
        List<Integer> row = new ArrayList<>(List.of(m.seed, m.said, m.loud, m.lookCount, m.spent, m.toucher));
        for (Model.Creeper c : m.creepers) {
            row.addAll(List.of(c.place, c.into, c.how, c.seen, c.wronged, c.stood));
        }
        return row.stream().mapToInt(i -> i).toArray();
    }

    private void bringBack(int[] row) {
        m.seed = row[0];
        m.said = row[1];
        m.loud = row[2];
        m.lookCount = row[3];
        m.spent = row[4];
        m.toucher = row[5];
        int i = 6;
        for (Model.Creeper c : m.creepers) {
            c.place = row[i++];
            c.into = row[i++];
            c.how = row[i++];
            c.seen = row[i++];
            c.wronged = row[i++];
            c.stood = row[i++];
        }
    }

    long mark() {
        if (m == null) {
            return no(1);
        }
        if (marks.size() == 3) {
            return no(3);
        }
        marks.add(kept());
        return well(marks.size() - 1);
    }

    long back(int mark) {
        if (mark < 0 || mark >= marks.size()) {
            return denied(1);
        }
        bringBack(marks.get(mark));
        return well(1);
    }

    // ---- odds

    long behind(int part) {
        return m == null || part < 0 || part >= m.parts.size() ? no(1) : well(m.behind(part));
    }

    long ways() {
        return m == null ? no(1) : well((long) Math.pow(100, m.parts.size() - 1));
    }

    /** The number of what is wrong with a creeper and a place, 0 if nothing is. */
    private int wrongWith(int c, int from) {
        return !isCreeper(c) ? 1 : !belowWall(from) ? 2 : 0;
    }

    private int wrongWith(int c, int from, int x) {
        int wrong = wrongWith(c, from);
        return wrong == 0 && (x < 0 || x > m.total()) ? 2 : wrong;
    }

    long risk(int c, int from, int x) {
        int wrong = wrongWith(c, from, x);
        return wrong > 0 ? no(wrong) : well(m.risk(c, from, x));
    }

    long gain(int c, int from, int x, boolean hidden) {
        int wrong = wrongWith(c, from, x);
        trouble = wrong;
        return wrong > 0 ? NO_GAIN : m.gain(c, from, x, hidden);
    }

    long best(int c, int from, boolean hidden) {
        int wrong = wrongWith(c, from);
        return wrong > 0 ? no(wrong) : well(m.best(c, from, hidden));
    }

    long worth(int c, int from) {
        int wrong = wrongWith(c, from);
        return wrong > 0 ? no(wrong)
            : well(m.gain(c, from, m.best(c, from, true), true) - m.gain(c, from, m.best(c, from, false), false));
    }

    long rests(int c, int from) {
        int wrong = wrongWith(c, from);
        return wrong > 0 ? no(wrong) : well(m.rests(c, from).size());
    }

    long rest(int c, int from, int i) {
        int wrong = wrongWith(c, from);
        if (wrong > 0) {
            return no(wrong);
        }
        List<Integer> rests = m.rests(c, from);
        return i < 0 || i >= rests.size() ? no(1) : well(rests.get(i));
    }

    long watch() {
        return m == null ? no(1) : well(m.watch());
    }

    long both(int n) {
        if (m == null) {
            return no(1);
        }
        return n < 0 || n > m.parts.size() ? no(2) : well(m.both(n));
    }

    private int wrongPlays(int n, int most) {
        return m == null ? 1 : n < 1 || n > 20 || most < 1 || most > 999 ? 2 : 0;
    }

    private int[] plays(int n, int most, int eyes) {
        int[] now = kept();
        int[] sums = m.plays(m.seed, n, most, eyes);
        bringBack(now);
        return sums;
    }

    long wins(int c, int n, int most) {
        int wrong = !isCreeper(c) ? 1 : wrongPlays(n, most);
        return wrong > 0 ? no(wrong) : well(plays(n, most, m.eyes())[3 + c]);
    }

    long lasts(int n, int most) {
        int wrong = wrongPlays(n, most);
        return wrong > 0 ? no(wrong) : well(plays(n, most, m.eyes())[0]);
    }

    long sent(int n, int most) {
        int wrong = wrongPlays(n, most);
        return wrong > 0 ? no(wrong) : well(plays(n, most, m.eyes())[1]);
    }

    long looking(int n, int most) {
        int wrong = wrongPlays(n, most);
        if (wrong > 0) {
            return no(wrong);
        }
        int best = m.creepers.size();
        for (int eyes = best; eyes >= 0; eyes--) {
            best = plays(n, most, eyes)[2] <= plays(n, most, best)[2] ? eyes : best;
        }
        return well(best);
    }

    // ---- films, stops

    long film(int part, boolean shoulders, boolean turned) {
        if (!isFilmed(part)) {
            return no(1);
        }
        if (films.size() == 30) {
            return no(3);
        }
        films.add(new Film(part, shoulders, turned));
        return well(films.size());
    }

    private static int hundredths(List<Film> some) {
        return some.isEmpty() ? -1 : (int) (100 * some.stream().filter(Film::turned).count() / some.size());
    }

    private int lawOf(int part) {
        return hundredths(films.stream().filter(f -> f.part == part).toList());
    }

    long law(int part) {
        if (!isFilmed(part)) {
            return no(1);
        }
        return lawOf(part) < 0 ? no(6) : well(lawOf(part));
    }

    long says(int part, boolean shoulders) {
        if (!isFilmed(part)) {
            return no(1);
        }
        int says = hundredths(films.stream().filter(f -> f.part == part && f.shoulders == shoulders).toList());
        return says < 0 ? no(6) : well(says);
    }

    long off() {
        if (m == null) {
            return no(1);
        }
        int off = 0;
        for (int p = 0; p < m.parts.size() - 1; p++) {
            off += lawOf(p) < 0 ? 0 : Math.abs(lawOf(p) - m.chances.get(p));
        }
        return well(off);
    }

    long stop(int c, boolean wobbled) {
        if (!isCreeper(c)) {
            return no(1);
        }
        List<Boolean> told = stops.computeIfAbsent(c, k -> new ArrayList<>());
        if (told.size() == 9) {
            return no(3);
        }
        told.add(wobbled);
        return well(told.size());
    }

    private boolean inSpan(int c, int w) {
        List<Boolean> told = stops.get(c);
        return Model.inSpan(told.size(), (int) told.stream().filter(b -> b).count(), w);
    }

    long span(int c, boolean most) {
        if (!isCreeper(c)) {
            return no(1);
        }
        if (!stops.containsKey(c)) {
            return no(6);
        }
        int found = -1;
        for (int w = 0; w <= 100; w++) {
            found = inSpan(c, w) && (most || found < 0) ? w : found;
        }
        return well(found);
    }

    long fits(int c) {
        if (!isCreeper(c)) {
            return no(1);
        }
        return !stops.containsKey(c) ? no(6) : well(inSpan(c, m.creepers.get(c).wobble) ? 1 : 0);
    }

    // ---- home, starts, gravel

    long home(int c, int from) {
        if (!isCreeper(c)) {
            return no(1);
        }
        return from < 0 || from > m.length ? no(2) : well(m.caughtFrom(m.creepers.get(c), from) ? 1 : 0);
    }

    long far(int c) {
        if (!isCreeper(c)) {
            return no(1);
        }
        int far = 0;
        for (int from = 0; from <= m.length; from++) {
            far = m.caughtFrom(m.creepers.get(c), from) ? far : from;
        }
        return well(far);
    }

    long fair() {
        return m == null ? no(1) : well(m.fair()[0]);
    }

    long from(int c) {
        return !isCreeper(c) ? no(1) : well(m.fair()[1 + c]);
    }

    private int wrongStrip(int n) {
        return m == null ? 1 : n < 1 || n > m.length ? 2 : 0;
    }

    long lay(int n) {
        int wrong = wrongStrip(n);
        return wrong > 0 ? no(wrong) : well(m.lay(n)[0]);
    }

    long heard(int n) {
        int wrong = wrongStrip(n);
        return wrong > 0 ? no(wrong) : well(m.lay(n)[1]);
    }

    long loud(int lane, int cell) {
        boolean is = m != null && lane >= 0 && lane < m.lanes && cell >= 1 && cell <= m.length;
        return is ? well(m.loudAt(lane, cell)) : no(1);
    }

    // ---- what is seen

    long led(int i) {
        return isCreeper(i) ? m.creepers.indexOf(m.led().get(i)) : NOT_LED;
    }

    long size(int what) {
        if (what == 6) {
            return tape.length();
        }
        if (what < 0 || what > 10) {
            return -1;
        }
        return m == null ? 0 : new int[] {m.length, m.lanes, m.parts.size(), m.gravels.size(), m.creepers.size(), m.seed, 0, marks.size(),
            films.size(), m.total(), m.eyes()}[what];
    }

    long creeper(int c, int what) {
        if (!isCreeper(c) || what < 0 || what > 6) {
            return -1;
        }
        Model.Creeper told = m.creepers.get(c);
        return new int[] {told.lane, told.pace, told.wobble, told.tall, told.expects, told.way, told.n}[what];
    }
}
