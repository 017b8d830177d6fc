import java.io.IOException;
import java.nio.file.Files;
import java.nio.file.Path;
import java.util.ArrayList;
import java.util.LinkedHashMap;
import java.util.List;
import java.util.Map;
import java.util.TreeSet;
import java.util.regex.MatchResult;
import java.util.regex.Matcher;
import java.util.regex.Pattern;

/**
 * The class as the document's own text tells its face: each signature to the letter and in its order, what the
 * interface says ahead of which calls, and each promise's arguments, ranges and exceptions as the other tests take
 * them. It is run in the project's folder.
 */
public final class DocumentTest {
    private static final Path DOCUMENT = Path.of("../shared/DOC.md");
    private static final Path FILE = Path.of("src/main/java/Holeworks.java");
    private static final int PROMISES = 42;

    private static final Pattern RANGE = Pattern.compile("\\b(\\d+) to (\\d+)\\b");
    private static final Pattern SIGNATURE = Pattern.compile("(?m)^ {4}public ([^={;]*?)\\s*[{;]");

    private static final Check check = new Check("DocumentTest");

    public static void main(String[] args) throws IOException {
        String document = Files.readString(DOCUMENT);
        String file = Files.readString(FILE);
        List<String> face = signaturesIn(group(document, "(?s)```java(.*?)```"));
        check.sentence("The public face");
        check.same("the signatures, in their order", face, signaturesIn(file));
        check.same("the class", true, file.contains("\npublic final class Holeworks {\n"));
        headings(document, file);
        promises(document, face);
        check.end();
    }

    private static String group(String text, String pattern) {
        Matcher matcher = Pattern.compile(pattern).matcher(text);
        return matcher.find() ? matcher.group(1) : "";
    }

    private static List<String> signaturesIn(String text) {
        List<String> found = new ArrayList<>();
        for (MatchResult each : SIGNATURE.matcher(text).results().toList()) {
            found.add(each.group(1).replaceAll("\\s+", " "));
        }
        return found;
    }

    private static String nameOf(String signature) {
        return group(signature, "(\\w+)\\(");
    }

    /** For each call what stands in the line of comment that was the last one, of those between two methods. */
    private static Map<String, String> headingOfEach(String file) {
        Map<String, String> headings = new LinkedHashMap<>();
        String heading = "";
        for (String line : file.lines().toList()) {
            if (line.startsWith("    // ")) {
                heading = line.substring(7);
            }
            if (line.startsWith("    public ") && !line.startsWith("    public Holeworks(")) {
                headings.put(nameOf(line), heading);
            }
        }
        return headings;
    }

    private static void headings(String document, String file) {
        Map<String, String> got = headingOfEach(file);
        Map<String, String> due = new LinkedHashMap<>();
        Matcher told = Pattern.compile("(?m)^Ahead of the calls (.*) the interface says: (.*)$").matcher(document);
        while (told.find()) {
            String heading = told.group(2).substring(0, 1).toUpperCase() + told.group(2).substring(1);
            for (MatchResult call : Pattern.compile("`(\\w+)`").matcher(told.group(1)).results().toList()) {
                due.put(call.group(1), heading);
            }
        }
        check.sentence("Ahead of the calls the interface says");
        check.same("how many calls", Calls.ALL.size(), due.size());
        check.same("the headings", due, got);
        for (String heading : new TreeSet<>(due.values())) {
            long lines = file.lines().filter(line -> line.equals("    // " + heading)).count();
            check.same("how often it stands: " + heading, 1L, lines);
        }
    }

    private static void promises(String document, List<String> face) {
        String[] parts = document.split("\n## ");
        List<String> told = new ArrayList<>();
        for (String part : parts) {
            if (part.startsWith("Promise ")) {
                told.add(part);
            }
        }
        check.sentence("Promise 1 to Promise 42");
        check.same("how many promises", PROMISES, told.size());
        check.same("how many calls, and the constructor", PROMISES, face.size());
        for (int number = 2; number <= Math.min(told.size(), face.size()); number++) {
            onePromise(number, told.get(number - 1), face.get(number - 1));
        }
    }

    private static void onePromise(int number, String told, String signature) {
        String name = nameOf(signature);
        check.sentence("Promise " + number + ": " + name);
        check.same("its title", "Promise " + number + ": " + name, told.lines().findFirst().orElse(""));
        check.same("its signature", signature, group(told, "(?s)\n`(.*?)`:"));
        List<String> thrown = new ArrayList<>();
        for (MatchResult each : Pattern.compile("(?m)^Throws `(\\w+)`").matcher(told).results().toList()) {
            thrown.add(each.group(1));
        }
        String declared = group(signature, "throws (.*)$");
        check.same("its exceptions, in their order", declared, String.join(", ", thrown));
        arguments(told, signature, Calls.ALL.get(number - 2));
    }

    /** Each argument is told by a line of its own, in its order; the ranges are those that the tests try. */
    private static void arguments(String told, String signature, Calls.Call call) {
        List<String> names = new ArrayList<>();
        List<String> ranges = new ArrayList<>();
        for (MatchResult each : Pattern.compile("(?m)^- `(\\w+)`: (.*)$").matcher(told).results().toList()) {
            Matcher range = RANGE.matcher(each.group(2));
            names.add(each.group(1));
            ranges.add(range.find() ? range.group() : "");
        }
        List<String> declared = new ArrayList<>();
        String list = signature.split(" throws ")[0];
        for (MatchResult each : Pattern.compile("(\\w+)[,)]").matcher(list).results().toList()) {
            declared.add(each.group(1));
        }
        List<String> tried = new ArrayList<>();
        for (Calls.Kind kind : call.kinds()) {
            tried.add(kind.hasRange() ? kind.least + " to " + kind.most : "");
        }
        check.same("the call of the tests", nameOf(signature), call.name());
        check.same("its arguments", declared, names);
        check.same("their ranges", ranges, tried);
    }
}
