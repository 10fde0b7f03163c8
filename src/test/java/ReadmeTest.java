import java.io.IOException;
import java.nio.file.Files;
import java.nio.file.Path;
import java.util.ArrayList;
import java.util.LinkedHashMap;
import java.util.List;
import java.util.Map;
import java.util.regex.Matcher;
import java.util.regex.Pattern;

/**
 * README.md says in the document's words what each call does, answers and throws, and what the words mean; the example
 * of a call shows the call and each of its exceptions. The answers in the examples are checked by ReadmeProgram.
 */
final class ReadmeTest {
    private static final Path DOCUMENT = Path.of("../shared/DOC.md");
    private static final Pattern HEADING = Pattern.compile("## Promise \\d+: (.*)|(\\d\\. [A-Z].*)|## .*");
    private static final Pattern THROWS = Pattern.compile("Throws `(\\w+)`.*");
    /** What README.md says in another way: the order of the calls, and the constant ahead of the examples. */
    private static final String SAID_ELSEWHERE = "Ahead of the calls.*|The constants: .*|```.*";

    private static final Readme README = Readme.read();

    public static void main(String[] args) throws IOException {
        Map<String, List<String>> calls = new LinkedHashMap<>();
        Map<String, List<String>> terms = new LinkedHashMap<>();
        List<String> words = new ArrayList<>();
        for (String line : Files.readAllLines(DOCUMENT)) {
            Matcher heading = HEADING.matcher(line);
            if (heading.matches()) {
                words = new ArrayList<>();
                if (heading.group(1) != null) {
                    calls.put(heading.group(1).replace("A new object", "DecisionDiagrams"), words);
                } else if (heading.group(2) != null) {
                    terms.put(line, words);
                }
            } else if (!line.isBlank() && !line.matches(SAID_ELSEWHERE)) {
                words.add(line);
            }
        }
        Check.equal("calls", README.calls.toString(), List.copyOf(calls.keySet()).toString());
        Check.equal("terms of the document", terms.size(), 4);
        terms.forEach(ReadmeTest::holdsTerm);
        calls.forEach(ReadmeTest::holdsCall);
        Check.finish("ReadmeTest");
    }

    private static void holdsTerm(String heading, List<String> words) {
        Readme.Section section = README.section(heading);
        List<String> said = new ArrayList<>(section.words);
        section.blocks.forEach(said::addAll);
        for (String line : words) {
            Check.report(said.contains(line), "README.md does not say \"" + line + "\" under \"" + heading + "\"");
        }
    }

    private static void holdsCall(String name, List<String> words) {
        Readme.Section section = README.section(name);
        Check.equal("README.md, " + name, String.join("\n", section.words), String.join("\n", words));
        List<String> example = section.block("java");
        Check.report(name.equals("DecisionDiagrams") || shows(example, name, ""), "the example of " + name + " has no call");
        for (String line : words) {
            Matcher exception = THROWS.matcher(line);
            if (exception.matches()) {
                Check.report(shows(example, name, "throws " + exception.group(1)),
                        "the example of " + name + " does not show: " + line);
            }
        }
    }

    private static boolean shows(List<String> example, String name, String answer) {
        return example.stream().anyMatch(line -> line.contains("x." + name + "(") && line.contains("// " + answer));
    }
}
