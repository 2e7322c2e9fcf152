import java.io.IOException;
import java.lang.reflect.Method;
import java.lang.reflect.Modifier;
import java.nio.file.Files;
import java.nio.file.Path;
import java.util.TreeSet;
import java.util.regex.Matcher;
import java.util.regex.Pattern;
import java.util.stream.Stream;

/** What README.md shows is what the class answers; .ci/run starts it in the project's folder. */
public final class ReadmeTest {
    private static final String ANSWER = "(-?\\d+|UNKNOWN|OUTSIDE|STATE|FULL|NONE)";
    private static final Pattern CALL = Pattern.compile("x\\.(\\w+)\\(([^()]*)\\); *// " + ANSWER + "(?:: (.*))?");
    private static final Pattern QUOTED = Pattern.compile("\"([^\"]*)\"");
    private static final Pattern CONSTANT = Pattern.compile("(?m)^\\| `([A-Z]+)` \\| (-\\d+) \\|");
    private static final Pattern TEST_ROW = Pattern.compile("(?m)^\\| `(\\w+Test)` \\|");
    private static final Check CHECK = new Check();

    private FerriesLevel x = null;
    private final TreeSet<String> shown = new TreeSet<>();

    public static void main(String[] args) throws IOException, ReflectiveOperationException {
        String readme = Files.readString(Path.of("README.md"));
        new ReadmeTest().calls(readme);
        constants(readme);
        tests(readme);
        CHECK.end("ReadmeTest");
    }

    private void calls(String readme) throws ReflectiveOperationException {
        Matcher block = Pattern.compile("(?s)```java\\n(.*?)```").matcher(readme);
        while (block.find()) {
            for (String line : block.group(1).split("\\n")) {
                if (line.equals("FerriesLevel x = new FerriesLevel();")) {
                    x = new FerriesLevel();
                } else {
                    call(line);
                }
            }
        }
        for (Method m : FerriesLevel.class.getDeclaredMethods()) {
            boolean isPublic = Modifier.isPublic(m.getModifiers());
            CHECK.holds("README.md shows " + m.getName(), !isPublic || shown.contains(m.getName()));
        }
    }

    private void call(String line) throws ReflectiveOperationException {
        Matcher m = CALL.matcher(line);
        boolean read = m.matches() && x != null;
        CHECK.holds("README.md: a call with its answer: " + line, read);
        if (!read) {
            return;
        }
        String name = m.group(1);
        shown.add(name);
        String[] told = m.group(2).isEmpty() ? new String[0] : m.group(2).split(", ");
        CHECK.due("README.md: " + line, number(m.group(3)), answer(name, told));
        if (name.equals("write")) {
            written(line, told);
        }
    }

    private int answer(String name, String[] told) throws ReflectiveOperationException {
        switch (told.length) {
            case 0: return (Integer) FerriesLevel.class.getMethod(name).invoke(x);
            case 1: return (Integer) FerriesLevel.class.getMethod(name, int.class).invoke(x, (int) number(told[0]));
            default:
        }
        int first = (int) number(told[0]);
        if (name.equals("write")) {
            return x.write(first, number(told[1]));
        }
        Method m = FerriesLevel.class.getMethod(name, int.class, int.class);
        return (Integer) m.invoke(x, first, (int) number(told[1]));
    }

    /** The signs that README.md quotes for the number that is written. */
    private static void written(String line, String[] told) {
        Matcher quoted = QUOTED.matcher(line);
        boolean found = quoted.find();
        CHECK.holds("README.md quotes what is written: " + line, found);
        if (found) {
            CHECK.due("README.md, bytes: " + line, number(told[0]), quoted.group(1).length());
            CHECK.due("README.md, signs: " + line, Check.bytes(quoted.group(1)), number(told[1]));
        }
    }

    private static long number(String told) {
        if (told.startsWith("'")) {
            return told.charAt(1);
        }
        switch (told) {
            case "UNKNOWN": return FerriesLevel.UNKNOWN;
            case "OUTSIDE": return FerriesLevel.OUTSIDE;
            case "STATE": return FerriesLevel.STATE;
            case "FULL": return FerriesLevel.FULL;
            case "NONE": return FerriesLevel.NONE;
            default: return Long.decode(told.replace("L", ""));
        }
    }

    private static void constants(String readme) {
        Matcher m = CONSTANT.matcher(readme);
        int seen = 0;
        while (m.find()) {
            seen++;
            CHECK.due("README.md: " + m.group(1), number(m.group(1)), Long.parseLong(m.group(2)));
        }
        CHECK.due("README.md: constants", 5, seen);
    }

    private static void tests(String readme) throws IOException {
        TreeSet<String> told = new TreeSet<>();
        Matcher m = TEST_ROW.matcher(readme);
        while (m.find()) {
            told.add(m.group(1));
        }
        TreeSet<String> here = new TreeSet<>();
        try (Stream<Path> files = Files.list(Path.of("src/test/java"))) {
            files.map(file -> file.getFileName().toString()).filter(name -> name.endsWith("Test.java"))
                    .forEach(name -> here.add(name.replace(".java", "")));
        }
        CHECK.same("README.md: the tests", here.toString(), told.toString());
        CHECK.holds("README.md: .ci/run is there to be run", Files.isExecutable(Path.of(".ci/run")));
    }
}
