import java.io.IOException;
import java.nio.file.Files;
import java.nio.file.Path;
import java.util.ArrayList;
import java.util.List;
import java.util.regex.Matcher;
import java.util.regex.Pattern;

/**
 * Takes the examples out of README.md: writes Example.java, as it stands there, and ReadmeProgram.java, which runs it and
 * all other examples and checks their answers. The argument is the folder for both.
 */
final class ReadmeExamples {
    private static final Pattern CALL =
            Pattern.compile("(\\s*)(.+);\\s+// (\"[^\"]*\"|throws \\w+|true|false|NONE|-?[0-9.]+)(, .*)?");

    private static final Readme README = Readme.read();

    public static void main(String[] args) throws IOException {
        Path folder = Path.of(args[0]);
        Files.createDirectories(folder);
        Readme.Section program = README.section("How to use it");
        Files.write(folder.resolve("Example.java"), program.block("java"));
        Files.write(folder.resolve("ReadmeProgram.java"), checks(program.block("text")));
    }

    private static List<String> checks(List<String> printed) {
        List<String> lines = new ArrayList<>();
        lines.add("final class ReadmeProgram extends Example {");
        lines.add("    public static void main(String[] args) {");
        lines.add("        ReadmeCheck.prints(() -> Example.main(args), " + quoted(String.join("\n", printed)) + ");");
        for (String call : README.calls) {
            lines.add("        " + methodOf(call) + "();");
        }
        lines.add("        Check.finish(\"ReadmeProgram\");");
        lines.add("    }");
        for (String call : README.calls) {
            lines.addAll(example(call));
        }
        lines.add("}");
        return lines;
    }

    private static String methodOf(String call) {
        return "exampleOf_" + call;
    }

    /** A method that runs the example of a call on a new object. */
    private static List<String> example(String call) {
        List<String> lines = new ArrayList<>();
        lines.add("    private static void " + methodOf(call) + "() {");
        lines.add("        DecisionDiagrams x = new DecisionDiagrams();");
        for (String line : README.section(call).block("java")) {
            lines.add("        " + statement(call, line));
        }
        lines.add("    }");
        return lines;
    }

    private static String statement(String call, String line) {
        Matcher matcher = CALL.matcher(line);
        if (matcher.matches()) {
            String answer = matcher.group(3).equals("NONE") ? "-1" : matcher.group(3);
            return "ReadmeCheck.answers(" + quoted("example of " + call + ": " + line.strip()) + ", () -> "
                    + matcher.group(2) + ", " + quoted(answer) + ");";
        }
        if (line.contains("//")) {
            throw new IllegalStateException("the answer can't be read: " + line);
        }
        return line;
    }

    private static String quoted(String text) {
        return "\"" + text.replace("\\", "\\\\").replace("\"", "\\\"").replace("\n", "\\n") + "\"";
    }
}
