import java.io.IOException;
import java.nio.file.Files;
import java.nio.file.Path;
import java.util.ArrayList;
import java.util.List;
import java.util.regex.Matcher;
import java.util.regex.Pattern;

/** README.md tells each call with all that the document has it throw, and shows the example to the letter. */
public final class ReadmeTests {
    private static final int CALLS = 17;

    private static int wrong = 0;

    public static void main(String[] args) throws IOException {
        String document = Files.readString(Path.of("../shared/DOC.md"));
        String readme = Files.readString(Path.of("README.md"));
        checkRows(rowsDue(document), rowsOf(readme));
        checkExample(readme);
        checkTestsNamed(readme);
        System.out.println(wrong + " faults of README.md");
        if (wrong != 0) {
            System.exit(1);
        }
    }

    private static void check(boolean good, String fault) {
        if (!good) {
            wrong++;
            System.out.println(fault);
        }
    }

    /** Of each call of the document: its head, and what it throws. */
    private static List<String[]> rowsDue(String document) {
        List<String[]> rows = new ArrayList<>();
        for (String promise : document.split("\n## ")) {
            Matcher head = Pattern.compile("^Promise \\d+: .*\n\n`(\\w+ \\w+\\(.*?\\))").matcher(promise);
            if (head.find()) {
                rows.add(new String[] {head.group(1), thrownBy(promise)});
            }
        }
        return rows;
    }

    private static String thrownBy(String promise) {
        List<String> all = new ArrayList<>();
        for (String line : promise.split("\n")) {
            if (line.startsWith("Throws ")) {
                all.add(line.substring("Throws ".length()));
            }
        }
        return all.isEmpty() ? "nothing" : String.join("; ", all);
    }

    /** Of each row of README.md that tells a call: its head, and what it throws. */
    private static List<String[]> rowsOf(String readme) {
        List<String[]> rows = new ArrayList<>();
        for (String line : readme.split("\n")) {
            String[] cells = line.split(" \\| ");
            if (line.startsWith("| `") && cells.length == 3) {
                check(!cells[1].isBlank(), "nothing is told of it: " + line);
                String head = cells[0].substring("| ".length()).replace("`", "");
                rows.add(new String[] {head, cells[2].replaceAll(" \\|$", "")});
            }
        }
        return rows;
    }

    private static void checkRows(List<String[]> due, List<String[]> got) {
        check(due.size() == CALLS, "the document has " + due.size() + " calls");
        check(got.size() == due.size(), got.size() + " rows, due are " + due.size());
        for (int row = 0; row < Math.min(due.size(), got.size()); row++) {
            for (int cell = 0; cell < 2; cell++) {
                String want = due.get(row)[cell];
                check(got.get(row)[cell].equals(want), "\"" + got.get(row)[cell] + "\", due is \"" + want + "\"");
            }
        }
    }

    private static void checkExample(String readme) throws IOException {
        String example = Files.readString(Path.of("src/example/java/MillExample.java"));
        check(readme.contains("\n```java\n" + example + "```\n"), "the example is another one");
    }

    private static void checkTestsNamed(String readme) {
        String[] tests = Path.of("src/test/java").toFile().list((folder, name) -> name.endsWith(".java"));
        check(tests != null && tests.length > 0, "no tests are found");
        for (String test : tests == null ? new String[0] : tests) {
            check(readme.contains("\n- `" + test.replace(".java", "") + "`: "), "not named: " + test);
        }
    }
}
