import java.io.IOException;
import java.lang.reflect.Modifier;
import java.nio.charset.StandardCharsets;
import java.nio.file.Files;
import java.nio.file.Path;
import java.util.Arrays;
import java.util.Map;
import java.util.TreeMap;
import java.util.regex.Matcher;
import java.util.regex.Pattern;

/** What of LANGUAGE.md can be seen in the class's text alone; .ci/run starts it in the project's folder. */
public final class FormTest {
    private static final Path SOURCE = Path.of("src/main/java/FerriesLevel.java");
    private static final String[] RULED_OUT = {
        "\\bpackage\\b", "\\bimport\\b", "\\bthrow\\b", "\\bthrows\\b", "\\btry\\b", "\\bcatch\\b", "\\bfinally\\b",
        "\\bsynchronized\\b", "\\bassert\\b", "->", "::", "Exact\\b", "\\bstatic\\s*\\{", "\\bSystem\\b", "\\bThread\\b",
        "\\bRandom\\b", "\\bjava\\.", "\\bdouble\\b", "\\bfloat\\b", "\\bprotected\\b", "[^\\x00-\\x7f]"};
    private static final Pattern METHOD = Pattern.compile(
            "\\n( +)(?:public |private |static |final )*\\w+(?:\\[\\])* (\\w+)\\(([^)]*)\\) \\{\\n(.*?)\\n\\1\\}", Pattern.DOTALL);
    private static final Pattern CALLED = Pattern.compile("\\b(\\w+)\\(");
    private static final Check CHECK = new Check();

    public static void main(String[] args) throws IOException {
        String text = Files.readString(SOURCE, StandardCharsets.ISO_8859_1);
        String code = text.replaceAll("(?s)/\\*.*?\\*/", "").replaceAll("//[^\\n]*", "");
        for (String out : RULED_OUT) {
            CHECK.due("places of " + out, 0, Pattern.compile(out).matcher(code).results().count());
        }
        CHECK.holds("some twelve classes at most", Pattern.compile("\\bclass ").matcher(code).results().count() <= 12);
        methods(code);
        fields(FerriesLevel.class);
        for (Class<?> inside : FerriesLevel.class.getDeclaredClasses()) {
            fields(inside);
        }
        CHECK.end("FormTest");
    }

    private static void methods(String code) {
        Matcher m = METHOD.matcher(code);
        TreeMap<String, String> bodies = new TreeMap<>();
        while (m.find()) {
            String name = m.group(2);
            CHECK.holds(name + " takes seven parameters at most", m.group(3).split(",").length <= 7);
            CHECK.holds(name + " has some sixty lines at most", m.group(4).split("\\n").length <= 60);
            CHECK.holds(name + " is the name of one method", bodies.put(name, m.group(4)) == null);
        }
        CHECK.due("methods that are seen", declared(), bodies.size());
        for (String name : bodies.keySet()) {
            CHECK.holds(name + " goes at most eight deep, and not into itself", depth(name, bodies, 0) <= 8);
        }
    }

    private static int declared() {
        int sum = FerriesLevel.class.getDeclaredMethods().length;
        for (Class<?> inside : FerriesLevel.class.getDeclaredClasses()) {
            sum += inside.getDeclaredMethods().length;
        }
        return sum;
    }

    /** How many calls stand open at most, by the names alone; one that goes into itself ends beyond 8. */
    private static int depth(String name, Map<String, String> bodies, int open) {
        int most = 0;
        Matcher called = CALLED.matcher(bodies.get(name));
        while (called.find() && open <= 8) {
            if (bodies.containsKey(called.group(1))) {
                most = Math.max(most, depth(called.group(1), bodies, open + 1));
            }
        }
        return most + 1;
    }

    private static void fields(Class<?> c) {
        long own = Arrays.stream(c.getDeclaredFields()).filter(f -> !Modifier.isStatic(f.getModifiers())).count();
        CHECK.holds(c + " has some twenty fields at most", own <= 20);
    }
}
