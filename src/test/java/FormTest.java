import java.io.IOException;
import java.nio.charset.StandardCharsets;
import java.nio.file.Files;
import java.nio.file.Path;
import java.util.regex.Matcher;
import java.util.regex.Pattern;

/** What of LANGUAGE.md can be seen in the class's text alone; .ci/run starts it in the project's folder. */
public final class FormTest {
    private static final Path SOURCE = Path.of("src/main/java/FerriesLevel.java");
    private static final String[] RULED_OUT = {
        "\\bpackage\\b", "\\bimport\\b", "\\bthrow\\b", "\\bthrows\\b", "\\btry\\b", "\\bcatch\\b", "\\bfinally\\b",
        "\\bsynchronized\\b", "\\bassert\\b", "->", "::", "Exact\\b", "\\bstatic\\s*\\{", "\\bSystem\\b", "\\bThread\\b",
        "\\bRandom\\b", "\\bjava\\.", "\\bdouble\\b", "\\bfloat\\b", "\\bprotected\\b", "[^\\x00-\\x7f]"};
    private static final Pattern METHOD = Pattern.compile(
            "\\n( +)(?:public |private |static |final )*\\w+(?:\\[\\])* \\w+\\(([^)]*)\\) \\{\\n(.*?)\\n\\1\\}", Pattern.DOTALL);
    private static final Check CHECK = new Check();

    public static void main(String[] args) throws IOException {
        String text = Files.readString(SOURCE, StandardCharsets.ISO_8859_1);
        String code = text.replaceAll("(?s)/\\*.*?\\*/", "").replaceAll("//[^\\n]*", "");
        for (String out : RULED_OUT) {
            CHECK.due("places of " + out, 0, Pattern.compile(out).matcher(code).results().count());
        }
        CHECK.holds("some twelve classes at most", Pattern.compile("\\bclass ").matcher(code).results().count() <= 12);
        methods(code);
        CHECK.end("FormTest");
    }

    private static void methods(String code) {
        Matcher m = METHOD.matcher(code);
        int seen = 0;
        while (m.find()) {
            seen++;
            CHECK.holds("seven parameters at most: " + m.group(2), m.group(2).split(",").length <= 7);
            CHECK.holds("some sixty lines at most behind (" + m.group(2) + ")", m.group(3).split("\\n").length <= 60);
        }
        CHECK.holds("methods are seen", seen > 32);
    }
}
