import java.util.ArrayList;
import java.util.Arrays;
import java.util.List;

/** Games with some TOKENS changed: FAULT and place by the class and by the FaultModel. */
public final class FaultsTest {
    private static final Check CHECK = new Check();
    private static final Made MADE = new Made(20261119);
    private static final int TEXTS = 24000;
    private static final String[] WORDS = {"yard", "verse", "one", "gravel", "creeper", "brave", "safe", "sly", "long", "lanes", "runs",
        "turns", "looks", "eye", "sees", "lane", "from", "to", "loud", "pace", "wobble", "tall", "expects", "ca", "cb", "z", "abcdefgh",
        "abcdefghi", "Yard", ";", ",", "?", "\t", "1", "1000", "0001"};
    private static final int[] WHOLES = {0, 1, 2, 3, 4, 5, 6, 7, 9, 10, 11, 19, 20, 21, 39, 40, 41, 59, 60, 61, 98, 99, 100, 101, 199, 200, 999};
    private static final int[] FAULTS = {0, 1, 3, 4, 5, 6};

    public static void main(String[] args) {
        int[] met = new int[7];
        for (int i = 0; i < TEXTS; i++) {
            String text = changed(MADE.game());
            FaultModel due = new FaultModel(text);
            StillYard x = new StillYard();
            int creepers = Check.read(x, text);
            met[due.fault()]++;
            CHECK.due("fault of " + text, x.fault(), due.fault());
            CHECK.due("where in " + text, x.where(), due.place());
            CHECK.due("whether it is a GAME: " + text, creepers > 0, due.fault() == 0);
        }
        for (int fault : FAULTS) {
            CHECK.due("whether texts of " + fault + " are many enough", met[fault] > TEXTS / 100, true);
        }
        CHECK.end();
    }

    private static String changed(String text) {
        List<String> lines = new ArrayList<>(Arrays.asList(text.split(";")));
        for (int i = MADE.some(0, 2); i > 0; i--) {
            changeLines(lines);
        }
        List<String> tokens = new ArrayList<>();
        for (String line : lines) {
            tokens.addAll(Arrays.asList((tokens.isEmpty() ? line : ";" + line).split("(?<=[;,])|(?=[;,])| +")));
        }
        tokens.removeIf(String::isEmpty);
        for (int i = MADE.some(0, 2); i > 0 && !tokens.isEmpty(); i--) {
            changeTokens(tokens);
        }
        String joined = spaced(tokens);
        int end = MADE.oneOf(20) ? MADE.some(0, joined.length()) : joined.length();
        return joined.substring(0, Math.min(900, end));
    }

    private static void changeLines(List<String> lines) {
        int i = MADE.some(0, lines.size() - 1);
        int k = MADE.some(0, lines.size() - 1);
        switch (MADE.some(0, 7)) {
            case 0 -> lines.add(k, lines.get(i));
            case 1 -> lines.add(lines.remove(i));
            case 2 -> lines.add(k, lines.remove(i));
            case 3 -> lines.addAll(List.of(grown(lines, "gravel"), grown(lines, "gravel")));
            case 4 -> lines.addAll(List.of(grown(lines, "creeper") + 1, grown(lines, "creeper")));
            case 5 -> lines.set(1, lines.get(1) + ", 1".repeat(MADE.some(1, 3)));
            default -> { }
        }
        if (MADE.oneOf(6) && lines.size() > 1) {
            lines.remove(MADE.some(0, lines.size() - 1));
        }
    }

    /** A line of that kind if there is one, of another NAME. */
    private static String grown(List<String> lines, String kind) {
        String first = lines.stream().filter(line -> line.startsWith(kind)).findFirst().orElse("");
        return first.replace("creeper c", "creeper " + (char) ('f' + MADE.some(0, 19)));
    }

    private static void changeTokens(List<String> tokens) {
        int i = MADE.some(0, tokens.size() - 1);
        String word = MADE.oneOf(3) ? String.valueOf(WHOLES[MADE.some(0, WHOLES.length - 1)]) : WORDS[MADE.some(0, WORDS.length - 1)];
        switch (MADE.some(0, 8)) {
            case 0 -> tokens.remove(i);
            case 1 -> tokens.set(i, word);
            case 2 -> tokens.add(i, word);
            case 3 -> tokens.add(i, tokens.get(i));
            default -> changeWhole(tokens, i);
        }
    }

    private static void changeWhole(List<String> tokens, int from) {
        for (int i = from; i < tokens.size(); i++) {
            if (Character.isDigit(tokens.get(i).charAt(0))) {
                tokens.set(i, String.valueOf(WHOLES[MADE.some(0, WHOLES.length - 1)]));
                return;
            }
        }
    }

    /** Now and then no blank between two of them, or many. */
    private static String spaced(List<String> tokens) {
        StringBuilder text = new StringBuilder();
        boolean wide = MADE.oneOf(10);
        boolean narrow = MADE.oneOf(10);
        for (String token : tokens) {
            text.append(token).append(narrow && MADE.oneOf(4) ? "" : wide ? " ".repeat(MADE.some(1, 4)) : " ");
        }
        return text.toString();
    }
}
