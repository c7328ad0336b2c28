import java.io.IOException;
import java.nio.file.Files;
import java.nio.file.Path;
import java.util.LinkedHashMap;
import java.util.Map;
import java.util.function.Consumer;

/** A test of its own for each sentence of the document that names a boundary case; the sentence must stand there. */
final class Edges {
    private final Check check = new Check();
    private final Map<String, String> sections = new LinkedHashMap<>();

    Edges() throws IOException {
        String section = "";
        for (String line : Files.readAllLines(Path.of("../shared/DOC.md"))) {
            if (line.startsWith("## ")) {
                section = line.substring(3).replaceAll(":.*", "");
            } else if (section.startsWith("Terms") && line.matches("[IV]+\\. .*")) {
                section = "Terms " + line.replaceAll("\\..*", "");
            }
            sections.merge(section, line, (before, more) -> before + "\n" + more);
        }
    }

    void of(String section, String sentence, Consumer<Check> test) {
        String text = sections.getOrDefault(section, "");
        check.due("whether the document says in " + section + ": " + sentence, text.contains(sentence), true);
        int wrong = check.wrong();
        int asked = check.asked();
        test.accept(check);
        check.due("whether anything was asked of: " + sentence, check.asked() > asked, true);
        if (check.wrong() > wrong) {
            System.out.println("  which breaks " + section + ": " + sentence);
        }
    }

    void end() {
        check.end();
    }
}
