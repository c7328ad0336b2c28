import java.util.ArrayList;
import java.util.HashSet;
import java.util.List;
import java.util.Map;
import java.util.Set;
import java.util.regex.Matcher;
import java.util.regex.Pattern;

/**
 * A second telling of the FAULTS: FORM by a pattern of all GAMES over one letter for each TOKEN, the others by going
 * through the LINES; of all that are found the one furthest to the left, of one place the one of the least number.
 */
final class FaultModel {
    private static final Map<String, Character> LETTERS = Map.ofEntries(Map.entry("yard", 'Y'), Map.entry("verse", 'V'),
        Map.entry("one", 'O'), Map.entry("gravel", 'G'), Map.entry("creeper", 'C'), Map.entry("brave", 'B'), Map.entry("safe", 'S'),
        Map.entry("sly", 'L'), Map.entry("long", 'l'), Map.entry("lanes", 'm'), Map.entry("runs", 'r'), Map.entry("turns", 't'),
        Map.entry("looks", 'k'), Map.entry("eye", 'e'), Map.entry("sees", 's'), Map.entry("lane", 'd'), Map.entry("from", 'f'),
        Map.entry("to", 'o'), Map.entry("loud", 'u'), Map.entry("pace", 'p'), Map.entry("wobble", 'w'), Map.entry("tall", 'h'),
        Map.entry("expects", 'x'));
    private static final Pattern TOKEN = Pattern.compile("[a-z]+|[0-9]+|[^ ]", Pattern.DOTALL);

    private final List<String> tokens = new ArrayList<>();
    private final List<Integer> places = new ArrayList<>();
    private final StringBuilder letters = new StringBuilder();
    private final List<int[]> found = new ArrayList<>();
    private final Set<String> names = new HashSet<>();
    private int parts;
    private boolean yard;
    private boolean verse;
    private boolean one;
    private int length;
    private int lanes;
    private int gravels;
    private int creepers;

    FaultModel(String text) {
        Matcher m = TOKEN.matcher(text);
        while (m.find()) {
            tokens.add(m.group());
            places.add(m.start());
            letters.append(letter(m.group()));
        }
        places.add(text.length());
        parts = partsTold();
        int well = wellTold();
        for (int from = 0; from < well; from = lineEnd(from) + 1) {
            line(from, Math.min(lineEnd(from), well));
        }
        if (well == tokens.size() && !(yard && verse && one && creepers > 0)) {
            found.add(new int[] {text.length(), 6});
        }
    }

    int fault() {
        return found.isEmpty() ? 0 : first()[1];
    }

    int place() {
        return found.isEmpty() ? -1 : first()[0];
    }

    /** The same GAME with a blank between all TOKENS. */
    String plain() {
        return String.join(" ", tokens);
    }

    private int[] first() {
        int[] first = found.get(0);
        for (int[] fault : found) {
            if (fault[0] < first[0] || fault[0] == first[0] && fault[1] < first[1]) {
                first = fault;
            }
        }
        return first;
    }

    private static char letter(String token) {
        char sign = token.charAt(0);
        if (sign >= 'a' && sign <= 'z') {
            return token.length() > 8 ? '?' : LETTERS.getOrDefault(token, 'z');
        }
        if (sign >= '0' && sign <= '9') {
            return token.length() > 3 ? '?' : 'n';
        }
        return sign == ';' || sign == ',' ? sign : '?';
    }

    private int partsTold() {
        Matcher m = Pattern.compile("Vn+(,n+)*").matcher(letters);
        return m.find() ? (int) m.group().chars().filter(c -> c == ',').count() + 1 : 1;
    }

    /** With how many TOKENS a GAME goes on; FORM where none does. */
    private int wellTold() {
        String chances = parts == 1 ? "" : "tn(,n){" + (parts - 2) + ",}";
        String line = "(Ylnmnrn|Vn+(,n+)*|O" + chances + "knensn|Gdnfnonun|C[lmrtkesdfoupwhxz]dnpnwnhnxn(B|Sn|Ln))";
        Pattern game = Pattern.compile(line + "(;" + line + ")*");
        for (int k = 1; k <= letters.length(); k++) {
            Matcher m = game.matcher(letters.substring(0, k));
            if (!m.matches() && !m.hitEnd()) {
                found.add(new int[] {places.get(k - 1), 1});
                return k - 1;
            }
        }
        if (!game.matcher(letters).matches()) {
            found.add(new int[] {places.get(tokens.size()), 1});
        }
        return tokens.size();
    }

    private int lineEnd(int from) {
        int end = letters.indexOf(";", from);
        return end < 0 ? tokens.size() : end;
    }

    private void fault(boolean is, int token, int number) {
        if (is) {
            found.add(new int[] {places.get(token), number});
        }
    }

    private void line(int from, int to) {
        switch (letters.charAt(from)) {
            case 'Y' -> yardLine(from, to);
            case 'V' -> verseLine(from, to);
            case 'O' -> oneLine(from, to);
            case 'G' -> gravelLine(from, to);
            default -> creeperLine(from, to);
        }
    }

    /** The WHOLE behind the WORD of that letter, a FAULT if it is out of bounds; -1 if it isn't told. */
    private int bounded(int from, int to, char letter, int least, int most) {
        for (int i = from + 1; i < to; i++) {
            if (letters.charAt(i - 1) == letter && letters.charAt(i) == 'n') {
                int whole = Integer.parseInt(tokens.get(i));
                fault(whole < least || whole > most, i, 4);
                return whole;
            }
        }
        return -1;
    }

    private void yardLine(int from, int to) {
        fault(yard, from, 3);
        yard = true;
        length = bounded(from, to, 'l', 4, 40);
        lanes = bounded(from, to, 'm', 1, 6);
        bounded(from, to, 'r', 1, 9);
    }

    private void verseLine(int from, int to) {
        fault(verse, from, 3);
        verse = true;
        int part = 1;
        int syllables = 0;
        for (int i = from + 1; i < to; i++) {
            if (letters.charAt(i) == ',') {
                part++;
                syllables = 0;
                continue;
            }
            syllables++;
            int whole = Integer.parseInt(tokens.get(i));
            fault(whole < 1 || whole > 20, i, 4);
            fault(syllables > 4 || part > 5, i, 5);
        }
    }

    private void oneLine(int from, int to) {
        fault(!verse, from, 6);
        fault(one, from, 3);
        one = true;
        int told = 0;
        for (int i = from + 1; i < to && letters.charAt(i) != 'k'; i++) {
            if (letters.charAt(i) == 'n') {
                told++;
                int whole = Integer.parseInt(tokens.get(i));
                fault(whole > 100, i, 4);
                fault(told > parts - 1, i, 5);
            }
        }
        bounded(from, to, 'k', 1, 60);
        bounded(from, to, 'e', 1, 20);
        bounded(from, to, 's', 0, 100);
    }

    private void gravelLine(int from, int to) {
        fault(!yard, from, 6);
        gravels++;
        fault(gravels > 5, from, 5);
        bounded(from, to, 'd', 0, lanes - 1);
        int first = bounded(from, to, 'f', 1, length);
        bounded(from, to, 'o', first, length);
        bounded(from, to, 'u', 1, 99);
    }

    private void creeperLine(int from, int to) {
        fault(!yard, from, 6);
        creepers++;
        fault(creepers > 5, from, 5);
        if (from + 1 < to) {
            fault(!names.add(tokens.get(from + 1)), from + 1, 3);
        }
        bounded(from + 1, to, 'd', 0, lanes - 1);
        bounded(from + 1, to, 'p', 1, 20);
        bounded(from + 1, to, 'w', 0, 100);
        bounded(from + 1, to, 'h', 60, 199);
        bounded(from + 1, to, 'x', 0, 100);
        bounded(from + 1, to, 'S', 1, 5);
        bounded(from + 1, to, 'L', 1, 20);
    }
}
