import java.io.IOException;
import java.nio.file.Files;
import java.nio.file.Path;
import java.util.List;
import java.util.regex.Matcher;
import java.util.regex.Pattern;

/** What of ../shared/LANGUAGE.md can be told from the text of the class alone. It is run in the project's folder. */
public final class LanguageTest {
    private static final Path FILE = Path.of("src/main/java/Holeworks.java");
    private static final int MOST_LINES = 60;
    private static final int MOST_CLASSES = 12;

    private static final String[] FORBIDDEN = {
        "->", "::", "\\bfinally\\b", "\\btry\\s*\\(", "\\bsynchronized\\b", "\\bassert\\b", "\\bpackage\\b",
        "\\bprotected\\b", "\\bnative\\b", "\\bvolatile\\b", "\\bObject\\b", "\\bThread\\b", "\\bRandom\\b",
        "\\bSystem\\.(?!arraycopy\\b)", "\\bArrays\\.(?!(copyOf|copyOfRange|fill)\\b)", "Exact\\b",
        "\\bMath\\.random\\b", "\\bgetMessage\\b", "\\bhashCode\\b", "\\bstatic\\s*\\{", "\\bBitSet\\b",
        "\\bString\\.format\\b",
        "\\bcatch\\s*\\(\\s*(final\\s+)?(Throwable|Exception|Error|NullPointerException|ClassCastException"
                + "|ArrayIndexOutOfBoundsException|NegativeArraySizeException|ArrayStoreException)\\b",
    };

    private static final String[] IMPORTS = {
        "import java.util.ArrayList;", "import java.util.Arrays;", "import java.util.Iterator;",
        "import java.util.List;", "import java.util.NoSuchElementException;",
    };

    private static final Check check = new Check("LanguageTest");

    public static void main(String[] args) throws IOException {
        String text = Files.readString(FILE);
        String code = text.replaceAll("(?s)/\\*.*?\\*/", "").replaceAll("//[^\n]*", "");
        String withoutCases = code.replaceAll("\\b(case\\b[^;{}]*?|default\\s*)->", "");
        for (String each : FORBIDDEN) {
            check.same("the code has " + each, false, Pattern.compile(each).matcher(withoutCases).find());
        }
        for (String line : code.lines().filter(each -> each.startsWith("import")).toList()) {
            check.same(line, true, List.of(IMPORTS).contains(line));
        }
        check.same("all signs are plain", true, text.chars().allMatch(sign -> sign == '\n' || sign > 31 && sign < 127));
        check.same("few classes", true, count(code, "\\bclass \\w+") <= MOST_CLASSES);
        check.same("static fields are final", 0, count(code, "\\bstatic (?!final\\b)[\\w\\[\\]]+ \\w+\\s*[=;]"));
        shortMethods(code);
        check.end();
    }

    private static int count(String code, String pattern) {
        Matcher matcher = Pattern.compile(pattern).matcher(code);
        int found = 0;
        while (matcher.find()) {
            found++;
        }
        return found;
    }

    /** A method ends at the first closing bracket that stands as far in as it began. */
    private static void shortMethods(String code) {
        List<String> lines = code.lines().toList();
        for (int start = 0; start < lines.size(); start++) {
            String line = lines.get(start);
            boolean isMethod = line.matches(" +[\\w\\[\\] ]+\\(.*") && !line.matches(".*[;,]$")
                    && !line.matches(" *(if|for|return|throw|switch|else)\\b.*");
            if (isMethod) {
                String end = " ".repeat(line.length() - line.stripLeading().length()) + "}";
                int length = lines.subList(start, lines.size()).indexOf(end);
                check.same("short: " + line.strip(), true, length > 0 && length <= MOST_LINES);
            }
        }
    }
}
