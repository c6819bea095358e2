import java.io.IOException;
import java.nio.charset.StandardCharsets;
import java.nio.file.Files;
import java.nio.file.Path;
import java.util.ArrayList;
import java.util.List;
import java.util.regex.Matcher;
import java.util.regex.Pattern;

/**
 * Writes the example of README.md out as a test: the same program, but each answer that it tells is
 * compared with the class's. Java can't compile a text from a page, so this is done ahead of javac.
 */
final class ReadmeExample {
    private static final String CLASS_LINE = "public final class Example {";
    private static final String MAIN_LINE = "    public static void main(String[] args) {";
    private static final String MAIN_END = "    }";
    /** Without it no wrong answer would fail the run. */
    private static final String END_LINE = "        CHECK.end();";
    /** A statement, blanks, and its answer up to a colon or the end. */
    private static final Pattern TOLD = Pattern.compile("(.*?);\\s+// ([^:]+?)(:.*)?", Pattern.DOTALL);
    private static final Pattern MAKES_OBJECT = Pattern.compile("FrameRound \\w+ = new FrameRound\\(\\);");

    private ReadmeExample() {
    }

    public static void main(String[] args) throws IOException {
        List<String> page = Files.readAllLines(Path.of(args[0]), StandardCharsets.US_ASCII);
        Files.write(Path.of(args[1]), test(example(page)), StandardCharsets.US_ASCII);
    }

    /** The lines of the page's one program; the page must have no other, as it wouldn't be run. */
    static List<String> example(List<String> page) {
        int begin = page.indexOf("```java");
        if (begin < 0 || begin != page.lastIndexOf("```java")) {
            throw new IllegalStateException("README.md must have one java block");
        }
        List<String> rest = page.subList(begin + 1, page.size());
        return rest.subList(0, rest.indexOf("```"));
    }

    static List<String> test(List<String> example) {
        List<String> out = new ArrayList<>();
        boolean isMain = false;
        StringBuilder open = new StringBuilder();
        for (String line : example) {
            if (isMain && line.equals(MAIN_END)) {
                isMain = false;
                out.add(END_LINE);
            }
            boolean isRemark = line.isBlank() || line.strip().startsWith("//");
            if (!isMain || isRemark) {
                out.add(line);
            } else {
                open.append(open.length() == 0 ? "" : "\n").append(line.strip());
                if (isWhole(line)) {
                    out.add("        " + statement(open.toString()));
                    open.setLength(0);
                }
            }
            if (line.equals(CLASS_LINE)) {
                out.add("    private static final Check CHECK = new Check(\"README.md\");");
            }
            isMain |= line.equals(MAIN_LINE);
        }
        if (!out.contains(END_LINE)) {
            throw new IllegalStateException("README.md's example has no main that begins and ends as expected");
        }
        return out;
    }

    private static boolean isWhole(String line) {
        return line.replaceFirst("\\s+// .*", "").endsWith(";");
    }

    private static String statement(String text) {
        Matcher told = TOLD.matcher(text);
        if (told.matches()) {
            String call = told.group(1);
            String name = call.replace("\\", "\\\\").replace("\"", "\\\"").replaceAll("\n", " ");
            return "CHECK.answers(\"" + name + "\", () -> " + call + ", \"" + told.group(2) + "\");";
        }
        if (!MAKES_OBJECT.matcher(text).matches()) {
            throw new IllegalStateException("README.md tells no answer of " + text);
        }
        return text;
    }
}
