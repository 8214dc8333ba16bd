import java.io.IOException;
import java.nio.file.Files;
import java.nio.file.Path;
import java.util.List;
import java.util.regex.Matcher;
import java.util.regex.Pattern;

/**
 * Prints a test, in the form of those under ../shared/tests, of what README.md shows: each line "call;  // answer" is
 * asked, all other lines are taken as they stand.
 */
public final class ReadmeRuns {
    private static final Pattern ASKED = Pattern.compile("(\\S.*\\));\\s+// (-?\\d+)(?:\\D.*)?");
    private static final int FEWEST = 20;

    private final StringBuilder test = new StringBuilder();
    private boolean isExample;
    private int asked;

    private ReadmeRuns() {
    }

    public static void main(String[] args) throws IOException {
        ReadmeRuns runs = new ReadmeRuns();
        List<String> lines = Files.readAllLines(Path.of(args.length > 0 ? args[0] : "README.md"));
        runs.test.append("""
            public final class ReadmeTest {
              private static int wrong = 0;
              private static void due(int line, String call, long got, long want) {
                if (got != want) {
                  wrong++;
                  System.out.println("README.md, line " + line + ": " + call + " answered " + got + ", told is " + want);
                }
              }
              public static void main(String[] args) {
            """);
        for (int i = 0; i < lines.size(); i++) {
            runs.take(lines.get(i), i + 1);
        }
        if (runs.isExample || runs.asked < FEWEST) {
            System.err.println("README.md shows " + runs.asked + " answers");
            System.exit(1);
        }
        runs.test.append("    System.out.println(\"" + runs.asked + " answers told in README.md, \" + wrong + \" not as due\");\n"
            + "    if (wrong != 0) System.exit(1);\n  }\n}");
        System.out.println(runs.test);
    }

    private void take(String line, int number) {
        if (line.startsWith("```")) {
            isExample = !isExample && line.equals("```java");
            return;
        }
        if (!isExample) {
            return;
        }
        Matcher m = ASKED.matcher(line);
        if (m.matches()) {
            asked++;
            String quoted = m.group(1).replace("\\", "\\\\").replace("\"", "\\\"");
            test.append("    due(" + number + ", \"" + quoted + "\", " + m.group(1) + ", " + m.group(2) + "L);\n");
        } else if (line.contains("//")) {
            System.err.println("README.md, line " + number + ": no answer is told in " + line);
            System.exit(1);
        } else {
            test.append("    " + line + "\n");
        }
    }
}
