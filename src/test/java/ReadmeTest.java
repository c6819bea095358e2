import java.io.IOException;
import java.nio.charset.StandardCharsets;
import java.nio.file.Files;
import java.nio.file.Path;
import java.util.List;
import java.util.Map;
import java.util.TreeMap;
import java.util.regex.Matcher;
import java.util.regex.Pattern;
import java.util.stream.Stream;

/** README.md says rightly where the tests of each promise are, and leaves no test out. */
public final class ReadmeTest {
    private static final Check CHECK = new Check("ReadmeTest");
    /** Promises from, to; the class of ordinary and wrong inputs; the class of edges. */
    private static final Pattern ROW = Pattern.compile("\\| (\\d+) to (\\d+) \\|[^|]*\\| `(\\w+)` \\| `(\\w+)` \\|");

    public static void main(String[] args) throws IOException {
        Path home = Path.of(System.getenv().getOrDefault("FRAMEROUND_HOME", "."));
        Path tests = home.resolve("src/test/java");
        List<String> page = Files.readAllLines(home.resolve("README.md"), StandardCharsets.US_ASCII);
        table(page, tests);
        namesEachFile(String.join("\n", page), tests);
        CHECK.end();
    }

    private static void table(List<String> page, Path tests) throws IOException {
        Map<Integer, Integer> rows = new TreeMap<>();
        for (String line : page) {
            Matcher row = ROW.matcher(line);
            if (!row.matches()) {
                continue;
            }
            String ordinary = Files.readString(tests.resolve(row.group(3) + ".java"), StandardCharsets.US_ASCII);
            String edges = Files.readString(tests.resolve(row.group(4) + ".java"), StandardCharsets.US_ASCII);
            for (int p = Integer.parseInt(row.group(1)); p <= Integer.parseInt(row.group(2)); p++) {
                rows.merge(p, 1, Integer::sum);
                CHECK.due(p + " in " + row.group(3), ordinary.contains("\"" + p + " "), true);
                String method = String.format("static void promise%02d_", p);
                CHECK.due(p + " in " + row.group(4), edges.contains(method), true);
            }
        }
        for (int p = 1; p <= 50; p++) {
            CHECK.due("rows of promise " + p, rows.getOrDefault(p, 0), 1);
        }
        CHECK.due("no other promises", rows.size(), 50);
    }

    private static void namesEachFile(String page, Path tests) throws IOException {
        try (Stream<Path> files = Files.list(tests)) {
            for (Path file : files.toList()) {
                String name = file.getFileName().toString().replace(".java", "");
                CHECK.due("README.md names " + name, page.contains("`" + name + "`"), true);
            }
        }
    }
}
