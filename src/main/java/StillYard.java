import java.util.NoSuchElementException;

/** Creeping up behind one who says a verse; README.md tells how it is used. */
public final class StillYard {
    public static final int NONE = -1;

    private static final int TAPE_ROOM = 900;
    private static final int FED_BYTES = 20;
    private static final int MOST_PARTS = 5;
    private static final int MOST_SYLLABLES = 4;
    private static final int MOST_GRAVELS = 5;
    private static final int MOST_CREEPERS = 5;
    private static final int MOST_MARKS = 3;
    private static final int MOST_FILMS = 30;
    private static final int MOST_STOPS = 9;
    private static final int MOST_TENTHS = 100;
    private static final int MOST_PLAYS = 20;
    private static final int LONGEST_PLAY = 999;
    private static final int SEEDS = 65537;
    private static final int NOT_YET = -2;
    private static final long NO_GAIN = -9223372036854775808L;

    private static final int NO_TROUBLE = 0;
    private static final int NONE_SUCH = 1;
    private static final int A_NUMBER = 2;
    private static final int NO_ROOM = 3;
    private static final int A_FAULT = 4;
    private static final int NOT_SO = 5;
    private static final int THERE_IS_NONE = 6;

    private static final int FORM = 1;
    private static final int AGAIN = 3;
    private static final int BOUNDS = 4;
    private static final int MANY = 5;
    private static final int LACKS = 6;

    private static final int GOING = 0;
    private static final int LOOKED = 1;
    private static final int OVER = 2;

    private static final int STILL = 0;
    private static final int WOBBLED = 1;
    private static final int HIDDEN = 2;
    private static final int UNSEEN = 3;
    private static final int SEEN = 4;
    private static final int WRONGED = 5;

    private static final int LANE = 0;
    private static final int PACE = 1;
    private static final int WOBBLE = 2;
    private static final int TALL = 3;
    private static final int EXPECTS = 4;
    private static final int WAY = 5;
    private static final int WAY_NUMBER = 6;
    private static final int TRAITS = 7;

    private static final int BRAVE = 0;
    private static final int SAFE = 1;
    private static final int SLY = 2;
    private static final int MOST_SAFE = 5;
    private static final int MOST_SLY = 20;

    private static final int STRIP_FROM = 1;
    private static final int STRIP_TO = 2;
    private static final int STRIP_LOUD = 3;
    private static final int STRIP_NUMBERS = 4;

    private final Text tape;
    private final Reader reader;
    private final Play now;
    private final Play[] marks;
    private final Plays plays;
    private final Notes notes;
    private final Starts starts;
    private final Strip strip;
    private Game told;
    private Game spare;
    private int marksKept;
    private int troubled;
    private int lastFault;
    private int faultPlace;

    public StillYard() {
        told = new Game();
        spare = new Game();
        tape = new Text();
        reader = new Reader(tape, spare);
        now = new Play();
        marks = new Play[MOST_MARKS];
        for (int i = 0; i < marks.length; i++) {
            marks[i] = new Play();
        }
        plays = new Plays();
        notes = new Notes();
        starts = new Starts();
        strip = new Strip();
    }

    // ---- the game

    public int feed(int a, int b, int c, int d, int e) {
        if (tape.length + FED_BYTES > TAPE_ROOM) {
            return NONE;
        }
        tape.append(a);
        tape.append(b);
        tape.append(c);
        tape.append(d);
        tape.append(e);
        return tape.length;
    }

    public int game(int n) {
        if (n < 0 || n > tape.length) {
            return refused(A_NUMBER);
        }
        boolean well = reader.read(spare, n);
        tape.length = 0;
        lastFault = reader.fault;
        faultPlace = reader.place;
        if (!well) {
            return refused(A_FAULT);
        }
        Game before = told;
        told = spare;
        spare = before;
        now.begin(0);
        marksKept = 0;
        notes.clear();
        return well(told.creepers);
    }

    public int fault() {
        return lastFault;
    }

    public int where() {
        return troubled == A_FAULT ? faultPlace : NONE;
    }

    // ---- the play

    public boolean start(int seed) {
        if (!hasGame()) {
            return denied(NONE_SUCH);
        }
        if (seed < 0 || seed >= SEEDS) {
            return denied(A_NUMBER);
        }
        now.begin(seed);
        return granted();
    }

    public int tenths(int n) {
        if (!hasGame()) {
            return refused(NONE_SUCH);
        }
        if (n < 1 || n > MOST_TENTHS) {
            return refused(A_NUMBER);
        }
        if (now.isOver()) {
            return refused(THERE_IS_NONE);
        }
        int gone = 0;
        while (gone < n && !now.isOver()) {
            now.goOn(told, told.eyes());
            gone++;
        }
        return well(gone);
    }

    public int round() {
        if (!hasGame()) {
            return refused(NONE_SUCH);
        }
        if (now.isOver()) {
            return refused(THERE_IS_NONE);
        }
        int came = GOING;
        int most = told.verseTenths();
        for (int i = 0; i < most && came == GOING; i++) {
            came = now.goOn(told, told.eyes());
        }
        return well(came);
    }

    public boolean bring(int creeper, int place) {
        if (!isCreeper(creeper)) {
            return denied(NONE_SUCH);
        }
        if (!isBelowWall(place)) {
            return denied(A_NUMBER);
        }
        if (now.isOver()) {
            return denied(THERE_IS_NONE);
        }
        put(now.places, creeper, place);
        put(now.intos, creeper, 0);
        return granted();
    }

    public boolean right(int creeper) {
        if (!isCreeper(creeper)) {
            return denied(NONE_SUCH);
        }
        if (now.isOver()) {
            return denied(THERE_IS_NONE);
        }
        if (at(now.hows, creeper) != WRONGED) {
            return denied(NOT_SO);
        }
        now.putRight(creeper);
        return granted();
    }

    public int about(int creeper, int what) {
        if (!isCreeper(creeper)) {
            return refused(NONE_SUCH);
        }
        switch (what) {
            case 0: return well(at(now.places, creeper));
            case 1: return well(at(now.intos, creeper));
            case 2: return well(at(now.hows, creeper));
            case 3: return well(at(now.seen, creeper));
            case 4: return well(at(now.wronged, creeper));
            case 5: return well(!now.isOver() && told.goes(creeper, now.said) ? 1 : 0);
            default: return refused(NONE_SUCH);
        }
    }

    public int play(int what) {
        if (!hasGame()) {
            return refused(NONE_SUCH);
        }
        switch (what) {
            case 0: return well(now.partSaid(told));
            case 1: return well(now.syllableSaid(told));
            case 2: return well(now.tenthsOfSyllable(told));
            case 3: return well(now.loudness);
            case 4: return well(now.looks);
            case 5: return well(now.spent);
            case 6: return well(now.toucher);
            case 7: return well(now.caughtBits(told));
            default: return refused(NONE_SUCH);
        }
    }

    public int often(int creeper) {
        if (!isCreeper(creeper)) {
            return refused(NONE_SUCH);
        }
        int all = at(now.seen, creeper) + at(now.wronged, creeper);
        if (all == 0) {
            return refused(THERE_IS_NONE);
        }
        return well(by(at(now.wronged, creeper) * 100, all));
    }

    public int mark() {
        if (!hasGame()) {
            return refused(NONE_SUCH);
        }
        if (marksKept < 0 || marksKept >= marks.length) {
            return refused(NO_ROOM);
        }
        Play kept = marks[marksKept];
        if (kept != null) {
            kept.become(now);
        }
        marksKept++;
        return well(marksKept - 1);
    }

    public boolean back(int mark) {
        if (mark < 0 || mark >= marksKept || mark >= marks.length) {
            return denied(NONE_SUCH);
        }
        Play kept = marks[mark];
        if (kept != null) {
            now.become(kept);
        }
        return granted();
    }

    // ---- odds

    public long behind(int part) {
        if (part < 0 || part >= told.parts) {
            return refused(NONE_SUCH);
        }
        troubled = NO_TROUBLE;
        return Odds.waysToTurn(told, part);
    }

    public long ways() {
        if (!hasGame()) {
            return refused(NONE_SUCH);
        }
        troubled = NO_TROUBLE;
        return Odds.allWays(told);
    }

    public long risk(int creeper, int place, int x) {
        if (!isCreeper(creeper)) {
            return refused(NONE_SUCH);
        }
        if (!isBelowWall(place) || !isOfVerse(x)) {
            return refused(A_NUMBER);
        }
        troubled = NO_TROUBLE;
        return Odds.seenWays(told, creeper, place, x);
    }

    public long gain(int creeper, int place, int x, boolean hidden) {
        if (!isCreeper(creeper)) {
            refused(NONE_SUCH);
            return NO_GAIN;
        }
        if (!isBelowWall(place) || !isOfVerse(x)) {
            refused(A_NUMBER);
            return NO_GAIN;
        }
        troubled = NO_TROUBLE;
        return Odds.gained(told, creeper, place, x, hidden);
    }

    public int best(int creeper, int place, boolean hidden) {
        if (!isCreeper(creeper)) {
            return refused(NONE_SUCH);
        }
        if (!isBelowWall(place)) {
            return refused(A_NUMBER);
        }
        return well(Odds.bestStand(told, creeper, place, hidden));
    }

    public long worth(int creeper, int place) {
        if (!isCreeper(creeper)) {
            return refused(NONE_SUCH);
        }
        if (!isBelowWall(place)) {
            return refused(A_NUMBER);
        }
        troubled = NO_TROUBLE;
        int covered = Odds.bestStand(told, creeper, place, true);
        int open = Odds.bestStand(told, creeper, place, false);
        return Odds.gained(told, creeper, place, covered, true)
            - Odds.gained(told, creeper, place, open, false);
    }

    public int rests(int creeper, int place) {
        if (!isCreeper(creeper)) {
            return refused(NONE_SUCH);
        }
        if (!isBelowWall(place)) {
            return refused(A_NUMBER);
        }
        return well(Odds.countRests(told, creeper, place));
    }

    public int rest(int creeper, int place, int i) {
        if (!isCreeper(creeper)) {
            return refused(NONE_SUCH);
        }
        if (!isBelowWall(place)) {
            return refused(A_NUMBER);
        }
        int pair = Odds.restAt(told, creeper, place, i);
        return pair == NONE ? refused(NONE_SUCH) : well(pair);
    }

    public int watch() {
        if (!hasGame()) {
            return refused(NONE_SUCH);
        }
        return well(Odds.watched(told, now));
    }

    public long both(int n) {
        if (!hasGame()) {
            return refused(NONE_SUCH);
        }
        if (n < 0 || n > told.parts) {
            return refused(A_NUMBER);
        }
        troubled = NO_TROUBLE;
        long unturned = Odds.waysUnturned(told, n);
        return unturned * unturned;
    }

    public int wins(int creeper, int n, int most) {
        if (!isCreeper(creeper)) {
            return refused(NONE_SUCH);
        }
        if (!arePlays(n, most)) {
            return refused(A_NUMBER);
        }
        plays.run(told, now.seed, n, most, told.eyes());
        return well(at(plays.touches, creeper));
    }

    public int lasts(int n, int most) {
        if (!hasGame()) {
            return refused(NONE_SUCH);
        }
        if (!arePlays(n, most)) {
            return refused(A_NUMBER);
        }
        plays.run(told, now.seed, n, most, told.eyes());
        return well(plays.spent);
    }

    public int sent(int n, int most) {
        if (!hasGame()) {
            return refused(NONE_SUCH);
        }
        if (!arePlays(n, most)) {
            return refused(A_NUMBER);
        }
        plays.run(told, now.seed, n, most, told.eyes());
        return well(plays.sentBack);
    }

    public int looking(int n, int most) {
        if (!hasGame()) {
            return refused(NONE_SUCH);
        }
        if (!arePlays(n, most)) {
            return refused(A_NUMBER);
        }
        int best = 0;
        int fewest = MOST_PLAYS + 1;
        for (int eyes = 0; eyes <= told.creepers; eyes++) {
            plays.run(told, now.seed, n, most, eyes);
            if (plays.touched < fewest) {
                fewest = plays.touched;
                best = eyes;
            }
        }
        return well(best);
    }

    // ---- films, stops

    public int film(int part, boolean shoulders, boolean turned) {
        if (!isFilmed(part)) {
            return refused(NONE_SUCH);
        }
        if (notes.films >= MOST_FILMS) {
            return refused(NO_ROOM);
        }
        notes.addFilm(part, shoulders, turned);
        return well(notes.films);
    }

    public int law(int part) {
        if (!isFilmed(part)) {
            return refused(NONE_SUCH);
        }
        int hundredths = notes.lawOf(part);
        return hundredths == NONE ? refused(THERE_IS_NONE) : well(hundredths);
    }

    public int says(int part, boolean shoulders) {
        if (!isFilmed(part)) {
            return refused(NONE_SUCH);
        }
        int hundredths = notes.lawBy(part, shoulders);
        return hundredths == NONE ? refused(THERE_IS_NONE) : well(hundredths);
    }

    public int off() {
        if (!hasGame()) {
            return refused(NONE_SUCH);
        }
        int together = 0;
        for (int part = 0; part < told.parts - 1; part++) {
            int hundredths = notes.lawOf(part);
            if (hundredths != NONE) {
                together += Math.abs(hundredths - at(told.chances, part));
            }
        }
        return well(together);
    }

    public int stop(int creeper, boolean wobbled) {
        if (!isCreeper(creeper)) {
            return refused(NONE_SUCH);
        }
        if (at(notes.stops, creeper) >= MOST_STOPS) {
            return refused(NO_ROOM);
        }
        notes.addStop(creeper, wobbled);
        return well(at(notes.stops, creeper));
    }

    public int span(int creeper, boolean most) {
        if (!isCreeper(creeper)) {
            return refused(NONE_SUCH);
        }
        if (at(notes.stops, creeper) == 0) {
            return refused(THERE_IS_NONE);
        }
        return well(most ? notes.greatestWobble(creeper) : notes.leastWobble(creeper));
    }

    public int fits(int creeper) {
        if (!isCreeper(creeper)) {
            return refused(NONE_SUCH);
        }
        if (at(notes.stops, creeper) == 0) {
            return refused(THERE_IS_NONE);
        }
        return well(notes.isInSpan(creeper, told.trait(creeper, WOBBLE)) ? 1 : 0);
    }

    // ---- home, starts, gravel

    public int home(int creeper, int place) {
        if (!isCreeper(creeper)) {
            return refused(NONE_SUCH);
        }
        if (place < 0 || place > told.length) {
            return refused(A_NUMBER);
        }
        return well(told.isCaughtFrom(creeper, place) ? 1 : 0);
    }

    public int far(int creeper) {
        if (!isCreeper(creeper)) {
            return refused(NONE_SUCH);
        }
        int place = told.length;
        while (place > 0 && told.isCaughtFrom(creeper, place)) {
            place--;
        }
        return well(place);
    }

    public int fair() {
        if (!hasGame()) {
            return refused(NONE_SUCH);
        }
        starts.find(told);
        return well(starts.apart);
    }

    public int from(int creeper) {
        if (!isCreeper(creeper)) {
            return refused(NONE_SUCH);
        }
        starts.find(told);
        return well(at(starts.found, creeper));
    }

    public int lay(int n) {
        if (!hasGame()) {
            return refused(NONE_SUCH);
        }
        if (n < 1 || n > told.length) {
            return refused(A_NUMBER);
        }
        strip.find(told, now, n);
        return well(strip.lane * 100 + strip.cell);
    }

    public int heard(int n) {
        if (!hasGame()) {
            return refused(NONE_SUCH);
        }
        if (n < 1 || n > told.length) {
            return refused(A_NUMBER);
        }
        strip.find(told, now, n);
        return well(strip.steps);
    }

    public int loud(int lane, int cell) {
        if (lane < 0 || lane >= told.lanes || cell < 1 || cell > told.length) {
            return refused(NONE_SUCH);
        }
        return well(told.loudnessOf(lane, cell));
    }

    // ---- what is seen

    public int led(int i) throws NoSuchElementException {
        if (i < 0 || i >= told.creepers) {
            throw new NoSuchElementException();
        }
        now.orderAll(told);
        return at(now.order, i);
    }

    public int size(int what) {
        switch (what) {
            case 0: return told.length;
            case 1: return told.lanes;
            case 2: return told.parts;
            case 3: return told.gravels;
            case 4: return told.creepers;
            case 5: return now.seed;
            case 6: return tape.length;
            case 7: return marksKept;
            case 8: return notes.films;
            case 9: return told.verseTenths();
            case 10: return told.eyes();
            default: return NONE;
        }
    }

    public int creeper(int c, int what) {
        if (c < 0 || c >= told.creepers || what < 0 || what >= TRAITS) {
            return NONE;
        }
        return told.trait(c, what);
    }

    public int trouble() {
        return troubled;
    }

    private int refused(int number) {
        troubled = number;
        return NONE;
    }

    private int well(int answer) {
        troubled = NO_TROUBLE;
        return answer;
    }

    private boolean denied(int number) {
        troubled = number;
        return false;
    }

    private boolean granted() {
        troubled = NO_TROUBLE;
        return true;
    }

    private boolean hasGame() {
        return told.creepers > 0;
    }

    private boolean isCreeper(int c) {
        return c >= 0 && c < told.creepers;
    }

    private boolean isBelowWall(int place) {
        return place >= 0 && place < told.length;
    }

    private boolean isOfVerse(int x) {
        return x >= 0 && x <= told.verseTenths();
    }

    private boolean isFilmed(int part) {
        return part >= 0 && part < told.parts - 1;
    }

    private static boolean arePlays(int n, int most) {
        return n >= 1 && n <= MOST_PLAYS && most >= 1 && most <= LONGEST_PLAY;
    }

    // Rows are only read and written through these, so that no index leaves its row.

    private static int at(int[] row, int i) {
        return row != null && i >= 0 && i < row.length ? row[i] : 0;
    }

    private static void put(int[] row, int i, int value) {
        if (row != null && i >= 0 && i < row.length) {
            row[i] = value;
        }
    }

    private static void add(int[] row, int i, int more) {
        put(row, i, at(row, i) + more);
    }

    private static void copy(int[] source, int[] target) {
        for (int i = 0; i < target.length; i++) {
            target[i] = at(source, i);
        }
    }

    private static void fill(int[] row, int value) {
        for (int i = 0; i < row.length; i++) {
            row[i] = value;
        }
    }

    private static int by(int a, int b) {
        return b > 0 ? a / b : 0;
    }

    private static int leftOver(int a, int b) {
        return b > 0 ? a % b : 0;
    }

    /** THE TAPE, and the TOKENS of the text on it, one after the other. */
    private static final class Text {
        static final int END = 0;
        static final int WORD = 1;
        static final int WHOLE = 2;
        static final int SEMICOLON = 3;
        static final int COMMA = 4;
        static final int BLANK = 5;
        static final int NO_TOKEN = 6;
        static final int LONGEST_WORD = 8;
        static final int LONGEST_WHOLE = 3;

        final byte[] bytes = new byte[TAPE_ROOM];
        int length;
        int end;
        int kind;
        int start;
        int width;
        int value;

        void append(int four) {
            for (int shift = 24; shift >= 0; shift -= 8) {
                if (length >= 0 && length < bytes.length) {
                    bytes[length] = (byte) (four >>> shift);
                    length++;
                }
            }
        }

        void open(int n) {
            end = n;
            start = 0;
            width = 0;
            advance();
        }

        void advance() {
            int i = start + width;
            while (i < end && kindOf(byteAt(i)) == BLANK) {
                i++;
            }
            start = i;
            kind = kindOf(byteAt(i));
            value = 0;
            boolean runs = kind == WORD || kind == WHOLE;
            int most = i < end ? 1 : 0;
            if (runs) {
                most = end - i;
            }
            width = 0;
            while (width < most && kindOf(byteAt(start + width)) == kind) {
                value = value * 10 + byteAt(start + width) - '0';
                width++;
            }
            if (kind == WORD && width > LONGEST_WORD || kind == WHOLE && width > LONGEST_WHOLE) {
                kind = NO_TOKEN;
            }
        }

        int byteAt(int i) {
            return i >= 0 && i < end && i < bytes.length ? bytes[i] & 255 : NONE;
        }

        static int kindOf(int sign) {
            if (sign >= 'a' && sign <= 'z') {
                return WORD;
            }
            if (sign >= '0' && sign <= '9') {
                return WHOLE;
            }
            switch (sign) {
                case NONE: return END;
                case ';': return SEMICOLON;
                case ',': return COMMA;
                case ' ': return BLANK;
                default: return NO_TOKEN;
            }
        }

        boolean isWord(String word) {
            if (kind != WORD || width != word.length()) {
                return false;
            }
            for (int i = 0; i < word.length(); i++) {
                if (byteAt(start + i) != word.charAt(i)) {
                    return false;
                }
            }
            return true;
        }

        boolean isTokenAt(int place, int size) {
            if (width != size) {
                return false;
            }
            for (int i = 0; i < size; i++) {
                if (byteAt(start + i) != byteAt(place + i)) {
                    return false;
                }
            }
            return true;
        }
    }

    /** Reads a GAME from the left and stops at its first FAULT. */
    private static final class Reader {
        final Text text;
        final int[] nameStarts = new int[MOST_CREEPERS];
        final int[] nameWidths = new int[MOST_CREEPERS];
        Game game;
        int fault;
        int place;
        int got;

        Reader(Text tape, Game first) {
            text = tape;
            game = first;
        }

        boolean read(Game into, int n) {
            game = into;
            game.clear();
            fault = 0;
            place = 0;
            text.open(n);
            for (int lines = 0; lines <= TAPE_ROOM; lines++) {
                boolean well = text.isWord("yard") ? yardLine()
                    : text.isWord("verse") ? verseLine()
                    : text.isWord("one") ? oneLine()
                    : text.isWord("gravel") ? gravelLine()
                    : text.isWord("creeper") ? creeperLine()
                    : fail(FORM);
                if (!well) {
                    return false;
                }
                if (text.kind == Text.END) {
                    return game.isWhole() || fail(LACKS);
                }
                if (text.kind != Text.SEMICOLON) {
                    return fail(FORM);
                }
                text.advance();
            }
            return fail(FORM);
        }

        boolean fail(int number) {
            fault = number;
            place = text.start;
            return false;
        }

        boolean word(String due) {
            if (!text.isWord(due)) {
                return fail(FORM);
            }
            text.advance();
            return true;
        }

        boolean whole(int least, int most, boolean room) {
            if (text.kind != Text.WHOLE) {
                return fail(FORM);
            }
            if (text.value < least || text.value > most) {
                return fail(BOUNDS);
            }
            if (!room) {
                return fail(MANY);
            }
            got = text.value;
            text.advance();
            return true;
        }

        boolean told(String due, int least, int most) {
            return word(due) && whole(least, most, true);
        }

        boolean yardLine() {
            if (game.length > 0) {
                return fail(AGAIN);
            }
            text.advance();
            if (!told("long", 4, 40)) {
                return false;
            }
            game.length = got;
            if (!told("lanes", 1, 6)) {
                return false;
            }
            game.lanes = got;
            if (!told("runs", 1, 9)) {
                return false;
            }
            game.runs = got;
            return true;
        }

        boolean verseLine() {
            if (game.parts > 0) {
                return fail(AGAIN);
            }
            text.advance();
            if (!part()) {
                return false;
            }
            for (int i = 0; i < TAPE_ROOM && text.kind == Text.COMMA; i++) {
                text.advance();
                if (!part()) {
                    return false;
                }
            }
            return true;
        }

        boolean part() {
            if (!whole(1, 20, game.parts < MOST_PARTS)) {
                return false;
            }
            game.addPart();
            game.addSyllable(got);
            for (int i = 1; i < TAPE_ROOM && text.kind == Text.WHOLE; i++) {
                if (!whole(1, 20, i < MOST_SYLLABLES)) {
                    return false;
                }
                game.addSyllable(got);
            }
            return true;
        }

        boolean oneLine() {
            if (game.parts == 0) {
                return fail(LACKS);
            }
            if (game.eye > 0) {
                return fail(AGAIN);
            }
            text.advance();
            if (game.parts > 1 && !chances()) {
                return false;
            }
            if (!told("looks", 1, 60)) {
                return false;
            }
            game.looks = got;
            if (!told("eye", 1, 20)) {
                return false;
            }
            game.eye = got;
            if (!told("sees", 0, 100)) {
                return false;
            }
            game.sees = got;
            return true;
        }

        boolean chances() {
            if (!word("turns") || !whole(0, 100, true)) {
                return false;
            }
            put(game.chances, 0, got);
            int count = 1;
            while (count < TAPE_ROOM && text.kind == Text.COMMA) {
                text.advance();
                if (!whole(0, 100, count < game.parts - 1)) {
                    return false;
                }
                put(game.chances, count, got);
                count++;
            }
            return count == game.parts - 1 || fail(FORM);
        }

        boolean gravelLine() {
            if (game.length == 0) {
                return fail(LACKS);
            }
            if (game.gravels >= MOST_GRAVELS) {
                return fail(MANY);
            }
            text.advance();
            int row = game.gravels * STRIP_NUMBERS;
            if (!told("lane", 0, game.lanes - 1)) {
                return false;
            }
            put(game.gravel, row + LANE, got);
            if (!told("from", 1, game.length)) {
                return false;
            }
            put(game.gravel, row + STRIP_FROM, got);
            if (!told("to", got, game.length)) {
                return false;
            }
            put(game.gravel, row + STRIP_TO, got);
            if (!told("loud", 1, 99)) {
                return false;
            }
            put(game.gravel, row + STRIP_LOUD, got);
            game.gravels++;
            return true;
        }

        boolean creeperLine() {
            if (game.length == 0) {
                return fail(LACKS);
            }
            if (game.creepers >= MOST_CREEPERS) {
                return fail(MANY);
            }
            text.advance();
            boolean well = name()
                && trait("lane", LANE, 0, game.lanes - 1)
                && trait("pace", PACE, 1, 20)
                && trait("wobble", WOBBLE, 0, 100)
                && trait("tall", TALL, 60, 199)
                && trait("expects", EXPECTS, 0, 100)
                && way();
            if (well) {
                game.creepers++;
            }
            return well;
        }

        boolean name() {
            if (text.kind != Text.WORD || isKept()) {
                return fail(FORM);
            }
            for (int c = 0; c < game.creepers; c++) {
                if (text.isTokenAt(at(nameStarts, c), at(nameWidths, c))) {
                    return fail(AGAIN);
                }
            }
            put(nameStarts, game.creepers, text.start);
            put(nameWidths, game.creepers, text.width);
            text.advance();
            return true;
        }

        boolean isKept() {
            return text.isWord("yard") || text.isWord("verse") || text.isWord("one")
                || text.isWord("gravel") || text.isWord("creeper") || text.isWord("brave")
                || text.isWord("safe") || text.isWord("sly");
        }

        boolean trait(String due, int what, int least, int most) {
            if (!word(due) || !whole(least, most, true)) {
                return false;
            }
            put(game.traits, game.creepers * TRAITS + what, got);
            return true;
        }

        boolean way() {
            boolean brave = text.isWord("brave");
            boolean safe = text.isWord("safe");
            if (!brave && !safe && !text.isWord("sly")) {
                return fail(FORM);
            }
            text.advance();
            got = 0;
            if (!brave && !whole(1, safe ? MOST_SAFE : MOST_SLY, true)) {
                return false;
            }
            int row = game.creepers * TRAITS;
            put(game.traits, row + WAY, brave ? BRAVE : safe ? SAFE : SLY);
            put(game.traits, row + WAY_NUMBER, got);
            return true;
        }
    }

    /** What a text tells; without a text, everything is 0. */
    private static final class Game {
        final int[] ends = new int[MOST_PARTS];
        final int[] syllableCounts = new int[MOST_PARTS];
        final int[] syllables = new int[MOST_PARTS * MOST_SYLLABLES];
        final int[] chances = new int[MOST_PARTS];
        final int[] gravel = new int[MOST_GRAVELS * STRIP_NUMBERS];
        final int[] traits = new int[MOST_CREEPERS * TRAITS];
        int length;
        int lanes;
        int runs;
        int parts;
        int looks;
        int eye;
        int sees;
        int gravels;
        int creepers;

        void clear() {
            fill(ends, 0);
            fill(syllableCounts, 0);
            fill(syllables, 0);
            fill(chances, 0);
            fill(gravel, 0);
            fill(traits, 0);
            length = 0;
            lanes = 0;
            runs = 0;
            parts = 0;
            looks = 0;
            eye = 0;
            sees = 0;
            gravels = 0;
            creepers = 0;
        }

        boolean isWhole() {
            return length > 0 && parts > 0 && eye > 0 && creepers > 0;
        }

        void addPart() {
            put(ends, parts, endOf(parts - 1));
            parts++;
        }

        void addSyllable(int tenths) {
            int part = parts - 1;
            int count = at(syllableCounts, part);
            put(syllables, part * MOST_SYLLABLES + count, tenths);
            put(syllableCounts, part, count + 1);
            add(ends, part, tenths);
        }

        int verseTenths() {
            return endOf(parts - 1);
        }

        int endOf(int part) {
            return part >= 0 && part < ends.length ? ends[part] : 0;
        }

        int syllable(int part, int i) {
            return at(syllables, part * MOST_SYLLABLES + i);
        }

        int partOf(int tenth) {
            int part = 0;
            while (part < parts - 1 && tenth >= endOf(part)) {
                part++;
            }
            return part;
        }

        int eyes() {
            return by(looks, eye);
        }

        int trait(int c, int what) {
            int i = c * TRAITS + what;
            return i >= 0 && i < traits.length ? traits[i] : 0;
        }

        boolean goes(int c, int tenth) {
            int part = partOf(tenth);
            int n = trait(c, WAY_NUMBER);
            switch (trait(c, WAY)) {
                case SAFE: return part < n;
                case SLY: return tenth < endOf(part) - n;
                default: return true;
            }
        }

        int tenthsMeant(int c) {
            int n = trait(c, WAY_NUMBER);
            switch (trait(c, WAY)) {
                case SAFE: return endOf(Math.min(n, parts) - 1);
                case SLY: return Math.max(endOf(0) - n, 0);
                default: return verseTenths();
            }
        }

        int loudnessOf(int lane, int cell) {
            int loudest = 0;
            for (int i = 0; i < gravels; i++) {
                int row = i * STRIP_NUMBERS;
                if (at(gravel, row + LANE) == lane && at(gravel, row + STRIP_FROM) <= cell
                        && at(gravel, row + STRIP_TO) >= cell) {
                    loudest = Math.max(loudest, at(gravel, row + STRIP_LOUD));
                }
            }
            return loudest;
        }

        boolean isCaughtFrom(int c, int place) {
            int needed = (place * trait(c, PACE) + 1) / 2;
            return needed > length * runs;
        }
    }

    /** One play of a GAME as it stands behind some TENTH. */
    private static final class Play {
        final int[] places = new int[MOST_CREEPERS];
        final int[] intos = new int[MOST_CREEPERS];
        final int[] hows = new int[MOST_CREEPERS];
        final int[] seen = new int[MOST_CREEPERS];
        final int[] wronged = new int[MOST_CREEPERS];
        final int[] stood = new int[MOST_CREEPERS];
        final int[] went = new int[MOST_CREEPERS];
        final int[] wobbles = new int[MOST_CREEPERS];
        final int[] order = new int[MOST_CREEPERS];
        int seed;
        int said;
        int loudness;
        int looks;
        int spent;
        int toucher = NOT_YET;

        void begin(int newSeed) {
            fill(places, 0);
            fill(intos, 0);
            fill(hows, NOT_YET);
            fill(seen, 0);
            fill(wronged, 0);
            fill(stood, 0);
            seed = newSeed;
            said = 0;
            loudness = 0;
            looks = 0;
            spent = 0;
            toucher = NOT_YET;
        }

        void become(Play other) {
            copy(other.places, places);
            copy(other.intos, intos);
            copy(other.hows, hows);
            copy(other.seen, seen);
            copy(other.wronged, wronged);
            copy(other.stood, stood);
            seed = other.seed;
            said = other.said;
            loudness = other.loudness;
            looks = other.looks;
            spent = other.spent;
            toucher = other.toucher;
        }

        boolean isOver() {
            return toucher >= 0;
        }

        int draw() {
            seed = (75 * seed + 74) % SEEDS;
            return seed % 100;
        }

        int goOn(Game g, int eyes) {
            creepAll(g);
            said++;
            spent++;
            toucher = firstAtWall(g);
            if (isOver()) {
                return OVER;
            }
            if (!turnsNow(g)) {
                return GOING;
            }
            wobbleAll(g);
            lookAround(g, eyes);
            sendBack(g);
            said = 0;
            loudness = 0;
            looks++;
            return LOOKED;
        }

        void creepAll(Game g) {
            for (int c = 0; c < g.creepers; c++) {
                boolean goes = g.goes(c, said);
                put(went, c, goes ? 1 : 0);
                if (goes) {
                    creep(g, c);
                }
            }
        }

        void creep(Game g, int c) {
            add(intos, c, 1);
            if (at(intos, c) >= g.trait(c, PACE)) {
                put(intos, c, 0);
                add(places, c, 1);
                loudness += g.loudnessOf(g.trait(c, LANE), at(places, c));
            }
        }

        int firstAtWall(Game g) {
            for (int c = 0; c < g.creepers; c++) {
                if (at(places, c) >= g.length) {
                    return c;
                }
            }
            return NOT_YET;
        }

        boolean turnsNow(Game g) {
            int part = g.partOf(said - 1);
            if (said != g.endOf(part)) {
                return false;
            }
            return part == g.parts - 1 || draw() < at(g.chances, part) + loudness;
        }

        void wobbleAll(Game g) {
            for (int c = 0; c < g.creepers; c++) {
                put(wobbles, c, NONE);
                if (at(went, c) == 1 && at(intos, c) > 0) {
                    stopFootUp(g, c);
                }
            }
        }

        // The foot comes down whether it WOBBLES or not: only one that didn't go keeps its INTO.
        void stopFootUp(Game g, int c) {
            if (draw() < g.trait(c, WOBBLE)) {
                put(wobbles, c, by(at(intos, c) * 100, g.trait(c, PACE)));
            }
            put(intos, c, 0);
        }

        void orderAll(Game g) {
            for (int c = 0; c < g.creepers; c++) {
                int i = c;
                while (i > 0 && at(places, at(order, i - 1)) < at(places, c)) {
                    put(order, i, at(order, i - 1));
                    i--;
                }
                put(order, i, c);
            }
        }

        void lookAround(Game g, int eyes) {
            copy(places, stood);
            fill(hows, UNSEEN);
            orderAll(g);
            for (int i = 0; i < eyes && i < g.creepers; i++) {
                int c = at(order, i);
                put(hows, c, howStands(g, c));
            }
        }

        int howStands(Game g, int c) {
            if (isHidden(g, c)) {
                return HIDDEN;
            }
            int wobble = at(wobbles, c);
            if (wobble != NONE) {
                return wobble >= g.sees + g.length - at(places, c) ? SEEN : WOBBLED;
            }
            return draw() < g.trait(c, EXPECTS) ? WRONGED : STILL;
        }

        boolean isHidden(Game g, int c) {
            for (int other = 0; other < g.creepers; other++) {
                if (g.trait(other, LANE) == g.trait(c, LANE)
                        && at(places, other) > at(places, c)
                        && g.trait(other, TALL) > g.trait(c, TALL)) {
                    return true;
                }
            }
            return false;
        }

        void sendBack(Game g) {
            for (int c = 0; c < g.creepers; c++) {
                int how = at(hows, c);
                if (how == SEEN) {
                    add(seen, c, 1);
                }
                if (how == WRONGED) {
                    add(wronged, c, 1);
                }
                if (how == SEEN || how == WRONGED) {
                    put(places, c, 0);
                }
            }
        }

        void putRight(int c) {
            put(places, c, at(stood, c));
            put(intos, c, 0);
            put(hows, c, STILL);
            add(wronged, c, -1);
        }

        // Touched with a PART's last tenth the verse stays in that PART, else the next one begins.
        int partSaid(Game g) {
            return g.partOf(isOver() ? said - 1 : said);
        }

        int syllableSaid(Game g) {
            int part = partSaid(g);
            int last = at(g.syllableCounts, part) - 1;
            int left = said - g.endOf(part - 1);
            int i = 0;
            while (i < last && left >= g.syllable(part, i)) {
                left -= g.syllable(part, i);
                i++;
            }
            return i;
        }

        int tenthsOfSyllable(Game g) {
            int part = partSaid(g);
            int left = said - g.endOf(part - 1);
            int before = syllableSaid(g);
            for (int i = 0; i < before; i++) {
                left -= g.syllable(part, i);
            }
            return left;
        }

        int caughtBits(Game g) {
            int bits = 0;
            for (int c = 0; c < g.creepers; c++) {
                if (isOver() && c != toucher && g.isCaughtFrom(c, at(places, c))) {
                    bits |= 1 << c;
                }
            }
            return bits;
        }
    }

    /** PLAYS from the beginning, one SEED after the other, and what came of them together. */
    private static final class Plays {
        final Play trial = new Play();
        final int[] touches = new int[MOST_CREEPERS];
        int touched;
        int spent;
        int sentBack;

        void run(Game g, int seed, int n, int most, int eyes) {
            fill(touches, 0);
            touched = 0;
            spent = 0;
            sentBack = 0;
            for (int i = 0; i < n; i++) {
                trial.begin((seed + i) % SEEDS);
                for (int t = 0; t < most && !trial.isOver(); t++) {
                    trial.goOn(g, eyes);
                }
                count(g);
            }
        }

        void count(Game g) {
            spent += trial.spent;
            if (trial.isOver()) {
                touched++;
                add(touches, trial.toucher, 1);
            }
            for (int c = 0; c < g.creepers; c++) {
                sentBack += at(trial.seen, c) + at(trial.wronged, c);
            }
        }
    }

    /** ODDS of all ways of his draws, and of a creeper's wobble, which has 100 ways. */
    private static final class Odds {
        static long allWays(Game g) {
            return waysUnturned(g, 0);
        }

        static long waysUnturned(Game g, int n) {
            if (n >= g.parts) {
                return 0;
            }
            long product = 1;
            for (int part = 0; part < g.parts - 1; part++) {
                product *= part < n ? 100 - at(g.chances, part) : 100;
            }
            return product;
        }

        static long waysToTurn(Game g, int part) {
            return waysUnturned(g, part) - waysUnturned(g, part + 1);
        }

        static int reached(Game g, int c, int place, int tenths) {
            return Math.min(g.length, place + by(tenths, g.trait(c, PACE)));
        }

        // He turns at the tenth end; whom it would show if its foot is up and it wobbles.
        static boolean isShown(Game g, int c, int place, int x, int end) {
            int pace = g.trait(c, PACE);
            int rest = leftOver(end, pace);
            int stands = reached(g, c, place, end);
            if (end >= x || rest == 0 || stands >= g.length) {
                return false;
            }
            return by(rest * 100, pace) >= g.sees + g.length - stands;
        }

        static long seenWays(Game g, int c, int place, int x) {
            long sum = 0;
            for (int part = 0; part < g.parts; part++) {
                if (isShown(g, c, place, x, g.endOf(part))) {
                    sum += waysToTurn(g, part) * g.trait(c, WOBBLE);
                }
            }
            return sum;
        }

        static long gainedIf(Game g, int c, int place, int x, int end, boolean hidden) {
            long shown = !hidden && isShown(g, c, place, x, end) ? g.trait(c, WOBBLE) : 0;
            int stands = reached(g, c, place, Math.min(x, end));
            return (100 - shown) * stands - 100L * place;
        }

        static long gained(Game g, int c, int place, int x, boolean hidden) {
            long sum = 0;
            for (int part = 0; part < g.parts; part++) {
                sum += waysToTurn(g, part) * gainedIf(g, c, place, x, g.endOf(part), hidden);
            }
            return sum;
        }

        static int bestStand(Game g, int c, int place, boolean hidden) {
            int best = 0;
            long most = gained(g, c, place, 0, hidden);
            int all = g.verseTenths();
            for (int x = 1; x <= all; x++) {
                long gain = gained(g, c, place, x, hidden);
                if (gain > most) {
                    most = gain;
                    best = x;
                }
            }
            return best;
        }

        static boolean isRest(Game g, int c, int place, int his, int its) {
            int turn = g.endOf(his);
            int stand = g.endOf(its);
            long gain = gainedIf(g, c, place, stand, turn, false);
            for (int part = 0; part < g.parts; part++) {
                int other = g.endOf(part);
                if (gainedIf(g, c, place, other, turn, false) > gain
                        || gainedIf(g, c, place, stand, other, false) < gain) {
                    return false;
                }
            }
            return true;
        }

        static int countRests(Game g, int c, int place) {
            int count = 0;
            for (int his = 0; his < g.parts; his++) {
                for (int its = 0; its < g.parts; its++) {
                    if (isRest(g, c, place, his, its)) {
                        count++;
                    }
                }
            }
            return count;
        }

        static int restAt(Game g, int c, int place, int i) {
            int count = 0;
            for (int his = 0; his < g.parts; his++) {
                for (int its = 0; its < g.parts; its++) {
                    if (isRest(g, c, place, his, its)) {
                        if (count == i) {
                            return his * 10 + its;
                        }
                        count++;
                    }
                }
            }
            return NONE;
        }

        static int watched(Game g, Play now) {
            int many = Math.min(g.eyes(), g.creepers);
            int sets = 1 << g.creepers;
            int best = 0;
            long most = -1;
            for (int bits = 0; bits < sets; bits++) {
                if (Integer.bitCount(bits) == many) {
                    long risk = riskTogether(g, now, bits);
                    if (risk > most) {
                        most = risk;
                        best = bits;
                    }
                }
            }
            return best;
        }

        static long riskTogether(Game g, Play now, int bits) {
            long sum = 0;
            for (int c = 0; c < g.creepers; c++) {
                if ((bits >> c & 1) == 1) {
                    sum += seenWays(g, c, at(now.places, c), g.tenthsMeant(c));
                }
            }
            return sum;
        }
    }

    /** FILMS, counted by what they show, and STOPS, counted by creepers. */
    private static final class Notes {
        static final int KINDS = 4;
        static final int SHOULDERS = 2;
        static final int TURNED = 1;

        final int[] filmCounts = new int[MOST_PARTS * KINDS];
        final int[] stops = new int[MOST_CREEPERS];
        final int[] wobbled = new int[MOST_CREEPERS];
        int films;

        void clear() {
            fill(filmCounts, 0);
            fill(stops, 0);
            fill(wobbled, 0);
            films = 0;
        }

        void addFilm(int part, boolean shoulders, boolean turned) {
            add(filmCounts, part * KINDS + (shoulders ? SHOULDERS : 0) + (turned ? TURNED : 0), 1);
            films++;
        }

        int counted(int part, int kind) {
            return at(filmCounts, part * KINDS + kind);
        }

        int lawOf(int part) {
            int turned = counted(part, TURNED) + counted(part, SHOULDERS + TURNED);
            int all = turned + counted(part, 0) + counted(part, SHOULDERS);
            return all == 0 ? NONE : by(turned * 100, all);
        }

        int lawBy(int part, boolean shoulders) {
            int kind = shoulders ? SHOULDERS : 0;
            int turned = counted(part, kind + TURNED);
            int all = turned + counted(part, kind);
            return all == 0 ? NONE : by(turned * 100, all);
        }

        void addStop(int c, boolean wobbles) {
            add(stops, c, 1);
            add(wobbled, c, wobbles ? 1 : 0);
        }

        boolean isInSpan(int c, int w) {
            int n = at(stops, c);
            int k = at(wobbled, c);
            return isUsual(waysBetween(n, w, k, n), n) && isUsual(waysBetween(n, w, 0, k), n);
        }

        // A twentieth of 100 to the n-th; 20 times the ways would leave a long.
        static boolean isUsual(long some, int n) {
            long twentieth = 5;
            for (int i = 1; i < n; i++) {
                twentieth *= 100;
            }
            return some >= twentieth;
        }

        static long waysBetween(int n, int w, int least, int most) {
            long sum = 0;
            for (int k = least; k <= most; k++) {
                sum += waysOf(n, w, k);
            }
            return sum;
        }

        static long waysOf(int n, int w, int k) {
            long product = 1;
            for (int i = 0; i < n; i++) {
                product *= i < k ? w : 100 - w;
            }
            int chosen = 1;
            for (int i = 1; i <= k; i++) {
                chosen = by(chosen * (n - k + i), i);
            }
            return product * chosen;
        }

        int leastWobble(int c) {
            int w = 0;
            while (w < 100 && !isInSpan(c, w)) {
                w++;
            }
            return w;
        }

        int greatestWobble(int c) {
            int w = 100;
            while (w > 0 && !isInSpan(c, w)) {
                w--;
            }
            return w;
        }
    }

    /** FAIR: every choice of starts is tried, the first creeper's PLACE growing last. */
    private static final class Starts {
        static final int PLACES = 8;

        final int[] tried = new int[MOST_CREEPERS];
        final int[] found = new int[MOST_CREEPERS];
        int apart;
        int sum;

        void find(Game g) {
            int base = Math.min(PLACES, g.length);
            int all = 1;
            for (int c = 0; c < g.creepers; c++) {
                all *= base;
            }
            for (int code = 0; code < all; code++) {
                unfold(g, code, base);
                consider(g, code == 0);
            }
        }

        void unfold(Game g, int code, int base) {
            int left = code;
            for (int c = g.creepers - 1; c >= 0; c--) {
                put(tried, c, leftOver(left, base));
                left = by(left, base);
            }
        }

        void consider(Game g, boolean first) {
            int least = 0;
            int greatest = 0;
            int places = 0;
            for (int c = 0; c < g.creepers; c++) {
                int needed = (g.length - at(tried, c)) * g.trait(c, PACE);
                least = c == 0 ? needed : Math.min(least, needed);
                greatest = Math.max(greatest, needed);
                places += at(tried, c);
            }
            int between = greatest - least;
            if (first || between < apart || between == apart && places < sum) {
                apart = between;
                sum = places;
                copy(tried, found);
            }
        }
    }

    /** LAY: the strip by which most STEPS to the wall would be HEARD. */
    private static final class Strip {
        int lane;
        int cell;
        int steps;

        void find(Game g, Play now, int n) {
            steps = -1;
            for (int tried = 0; tried < g.lanes; tried++) {
                for (int first = 1; first + n - 1 <= g.length; first++) {
                    int some = stepsOnto(g, now, tried, first, n);
                    if (some > steps) {
                        steps = some;
                        lane = tried;
                        cell = first;
                    }
                }
            }
        }

        static int stepsOnto(Game g, Play now, int lane, int first, int n) {
            int sum = 0;
            for (int cell = first; cell < first + n; cell++) {
                if (g.loudnessOf(lane, cell) == 0) {
                    sum += creepersBefore(g, now, lane, cell);
                }
            }
            return sum;
        }

        static int creepersBefore(Game g, Play now, int lane, int cell) {
            int count = 0;
            for (int c = 0; c < g.creepers; c++) {
                if (g.trait(c, LANE) == lane && at(now.places, c) < cell) {
                    count++;
                }
            }
            return count;
        }
    }
}
