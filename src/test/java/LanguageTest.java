import java.io.IOException;
import java.nio.file.Files;
import java.nio.file.Path;
import java.util.Set;
import java.util.TreeSet;
import java.util.regex.Matcher;
import java.util.regex.Pattern;

/** Rules of ../shared/LANGUAGE.md that the text of the class shows. */
public final class LanguageTest {
    private static final Check CHECK = new Check();
    private static final String[] BARRED = {"\\bcatch\\b", "\\btry\\b", "\\bfinally\\b", "->", "::", "Exact\\b",
        "\\bsynchronized\\b", "\\bassert\\b", "\\bextends\\b", "\\bimplements\\b", "\\bprotected\\b", "\\bdouble\\b",
        "\\bfloat\\b", "\\bMAX_VALUE\\b", "\\bMIN_VALUE\\b", "\\bSystem\\b", "\\bArrays\\b", "\\bString\\.", "\" \\+", "\\+ \"",
        "\\bpackage\\b", "\\bstatic \\{"};
    private static final int LONGEST_METHOD = 60;

    public static void main(String[] args) throws IOException {
        String text = Files.readString(Path.of("src/main/java/StillYard.java"));
        for (String barred : BARRED) {
            CHECK.due("uses of " + barred, count(text, barred), 0);
        }
        CHECK.due("imports", count(text, "(?m)^import "), 1);
        CHECK.due("signs beyond 127", count(text, "[^\\x00-\\x7f]"), 0);
        CHECK.due("static fields that change", count(text, "(?m)^ *(private )?static (?!final)[\\w\\[\\]]+ \\w+( =.*)?;"), 0);
        CHECK.due("rows made behind the making of an object", count(text, "(?m)^ +(?!final)\\S.* = new int\\["), 0);
        names(text);
        lengths(text);
        counts(text);
        CHECK.end();
    }

    private static int count(String text, String barred) {
        Matcher m = Pattern.compile(barred).matcher(text);
        int count = 0;
        while (m.find()) {
            count++;
        }
        return count;
    }

    private static void names(String text) {
        Set<String> open = new TreeSet<>();
        Matcher m = Pattern.compile("(?m)^    public \\w+ (\\w+)\\(").matcher(text);
        while (m.find()) {
            open.add(m.group(1));
        }
        CHECK.due("methods of the face", open.size(), 46);
        m = Pattern.compile("(?m)^ +(?:private )?(?:static )?(?:int|long|boolean|void) (\\w+)\\(").matcher(text);
        while (m.find()) {
            CHECK.due("another " + m.group(1), open.contains(m.group(1)), false);
        }
    }

    /** Classes of the file, parameters of a method, fields of a class that are no constants. */
    private static void counts(String text) {
        CHECK.due("more than 12 classes", count(text, "\\bclass \\w+ \\{") > 12, false);
        CHECK.due("methods of more than 7 parameters", count(text, "\\w+ \\w+\\((?:\\w+(?:\\[\\])? \\w+, ){7}"), 0);
        for (String part : text.split("\\bclass ")) {
            int fields = count(part, "(?m)^ +(?:private )?(?:final )?(?!return|static)\\w+(?:\\[\\])? \\w+(?: = new [^;]*| = \\w+)?;$");
            int locals = count(part, "(?m)^ {12,}(?:final )?(?!return|static)\\w+(?:\\[\\])? \\w+(?: = new [^;]*| = \\w+)?;$");
            CHECK.due("more than 20 fields of " + part.substring(0, part.indexOf('\n')), fields - locals > 20, false);
        }
    }

    private static void lengths(String text) {
        String[] lines = text.split("\n");
        int from = 0;
        for (int i = 0; i < lines.length; i++) {
            if (lines[i].matches(" {4,8}\\S.*\\) (throws \\w+ )?\\{")) {
                from = i;
            }
            if (lines[i].matches(" {4,8}\\}")) {
                CHECK.due("too long: " + lines[from], i - from > LONGEST_METHOD && lines[from].contains("("), false);
            }
        }
    }
}
