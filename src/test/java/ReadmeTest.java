import java.io.IOException;
import java.nio.file.Files;
import java.nio.file.Path;
import java.util.ArrayList;
import java.util.List;
import java.util.TreeSet;
import java.util.regex.MatchResult;
import java.util.regex.Matcher;
import java.util.regex.Pattern;
import java.util.stream.Stream;

/** README.md shows what holds: its examples answer what stands behind them. It is run in the project's folder. */
public final class ReadmeTest {
    private static final Path PAGE = Path.of("README.md");
    private static final Path TESTS = Path.of("src/test/java");
    private static final String FIRST_LINE = "Holeworks works = new Holeworks();";
    private static final Pattern LINE = Pattern.compile("works\\.(\\w+\\(.*?\\)); +// .*: (answers|throws) (\\S+)");
    private static final int FEWEST_LINES = 20;

    private static final Check check = new Check("ReadmeTest");

    public static void main(String[] args) throws IOException, ReflectiveOperationException {
        String page = Files.readString(PAGE);
        examples(page);
        callsThatItNames(page);
        testsThatItNames(page);
        pathsThatItNames(page);
        check.end();
    }

    private static List<String> groups(String text, String pattern) {
        List<String> found = new ArrayList<>();
        for (MatchResult each : Pattern.compile(pattern).matcher(text).results().toList()) {
            found.add(each.group(1));
        }
        return found;
    }

    /** All examples of the page, one after the other, on the one object that the first of them makes. */
    private static void examples(String page) throws ReflectiveOperationException {
        check.sentence("what README.md shows holds of the class as it stands");
        Holeworks works = new Holeworks();
        List<String> lines = new ArrayList<>();
        for (String block : groups(page, "(?s)```java\n(.*?)```")) {
            lines.addAll(block.lines().toList());
        }
        check.same("many lines", true, lines.size() >= FEWEST_LINES);
        check.same("the first line", FIRST_LINE, lines.remove(0));
        for (String line : lines) {
            Matcher told = LINE.matcher(line);
            boolean isCall = told.matches();
            check.same("a call and what it answers: " + line, true, isCall);
            if (isCall) {
                String due = told.group(2).equals("throws") ? "throws " + told.group(3) : told.group(3);
                check.same(line, due, Written.answerOf(works, told.group(1)));
            }
        }
    }

    private static void callsThatItNames(String page) {
        check.sentence("README.md says how to use the class");
        List<String> due = new ArrayList<>();
        for (Calls.Call call : Calls.ALL) {
            due.add(call.name());
        }
        List<String> named = new ArrayList<>();
        for (String row : groups(page, "(?m)^\\| (`[a-z][^|]*) \\|")) {
            named.addAll(groups(row, "`(\\w+)`"));
        }
        check.same("the calls", due, named);
    }

    private static void testsThatItNames(String page) throws IOException {
        check.sentence("README.md says how to run its tests");
        TreeSet<String> due = new TreeSet<>();
        try (Stream<Path> files = Files.list(TESTS)) {
            files.map(file -> file.getFileName().toString()).filter(name -> name.endsWith("Test.java"))
                    .forEach(name -> due.add(name.replace(".java", "")));
        }
        TreeSet<String> named = new TreeSet<>();
        for (String row : groups(page, "(?m)^\\| (`[A-Z][^|]*) \\|")) {
            named.addAll(groups(row, "`(\\w+)`"));
        }
        check.same("the tests", due, named);
    }

    private static void pathsThatItNames(String page) {
        check.sentence("README.md says how to run its tests");
        for (String path : groups(page, "`((?:\\.\\./|\\.ci/|src/)[\\w./]+)`")) {
            check.same("there is " + path, true, Files.exists(Path.of(path)));
        }
        check.same("it can be run", true, Files.isExecutable(Path.of(".ci/run")));
        check.same("it is named", true, page.contains("`.ci/run`"));
    }
}
