import java.io.ByteArrayOutputStream;
import java.io.IOException;
import java.io.PrintStream;
import java.nio.charset.StandardCharsets;
import java.nio.file.Files;
import java.nio.file.Path;
import java.util.List;
import java.util.regex.Matcher;
import java.util.regex.Pattern;
import java.util.stream.Stream;

/** README.md shows the Example as it is and what it prints, names every call of the face and every test. */
public final class ReadmeTest {
    private static final Check CHECK = new Check();

    public static void main(String[] args) throws IOException {
        String readme = Files.readString(Path.of("README.md"));
        String example = Files.readString(Path.of("src/test/java/Example.java"));
        CHECK.due("the example", readme.contains("```java\n" + example.substring(example.indexOf("public final class")) + "```"), true);
        CHECK.due("what it prints", readme.contains("```text\n" + printed() + "```"), true);
        Matcher m = Pattern.compile("(?m)^    public \\w+ (\\w+)\\(").matcher(Files.readString(Path.of("src/main/java/StillYard.java")));
        while (m.find()) {
            named(readme, m.group(1));
        }
        for (String test : tests()) {
            CHECK.due("a row of " + test, readme.contains("| " + test + " | "), true);
        }
        CHECK.end();
    }

    private static String printed() {
        PrintStream before = System.out;
        ByteArrayOutputStream bytes = new ByteArrayOutputStream();
        System.setOut(new PrintStream(bytes, true, StandardCharsets.ISO_8859_1));
        Example.main(new String[0]);
        System.setOut(before);
        return bytes.toString(StandardCharsets.ISO_8859_1).replace("\r", "");
    }

    private static void named(String readme, String call) {
        boolean inProse = readme.contains("`" + call + "`") || readme.contains("`" + call + "(");
        boolean inTable = Pattern.compile("(?m)^\\| [^|]*\\b" + call + "\\b[^|]*\\|").matcher(readme).find();
        CHECK.due("the name of " + call, inProse || inTable, true);
    }

    private static List<String> tests() throws IOException {
        try (Stream<Path> files = Files.list(Path.of("src/test/java"))) {
            return files.map(p -> p.getFileName().toString()).filter(n -> n.endsWith("Test.java"))
                .map(n -> n.substring(0, n.length() - 5)).sorted().toList();
        }
    }
}
