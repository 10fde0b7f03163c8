import java.io.IOException;
import java.io.UncheckedIOException;
import java.nio.file.Files;
import java.nio.file.Path;
import java.util.ArrayList;
import java.util.LinkedHashMap;
import java.util.List;
import java.util.Map;
import java.util.regex.Matcher;
import java.util.regex.Pattern;

/**
 * The words of the document by sections ("What it is", "Terms 1" to "Terms 4", "Promise 1" to "Promise 53"), and which of
 * them a test has quoted.
 */
final class Document {
    private static final Path PLACE = Path.of("../shared/DOC.md");
    private static final Pattern HEADING = Pattern.compile("## (Promise \\d+): .*|## (.*)|(\\d)\\. [A-Z].*");
    private static final Pattern WORDS_LEFT = Pattern.compile("[^\u0000]*[A-Za-z0-9][^\u0000]*");

    private final Map<String, StringBuilder> sections = new LinkedHashMap<>();
    /** The sections once more, with a zero byte in the place of each character that was quoted. */
    private final Map<String, StringBuilder> left = new LinkedHashMap<>();

    static Document read() {
        try {
            return new Document(Files.readAllLines(PLACE));
        } catch (IOException e) {
            throw new UncheckedIOException(e);
        }
    }

    private Document(List<String> lines) {
        String section = "";
        for (String line : lines) {
            Matcher heading = HEADING.matcher(line);
            if (heading.matches()) {
                section = sectionOf(heading);
            } else if (section.matches("What it is|(Terms|Promise) \\d+")) {
                add(section, line);
            }
        }
        sections.forEach((name, text) -> left.put(name, new StringBuilder(text)));
    }

    private static String sectionOf(Matcher heading) {
        if (heading.group(3) != null) {
            return "Terms " + heading.group(3);
        }
        return heading.group(1) != null ? heading.group(1) : heading.group(2);
    }

    /** What stands ahead of the colon is the face of the call, which FaceTest holds. */
    private void add(String section, String line) {
        String words = line.replaceFirst("^`[^`]*\\)( throws [^`]*)?`: ", "");
        if (!words.startsWith("```") && !words.startsWith("Ahead of the calls")) {
            sections.computeIfAbsent(section, name -> new StringBuilder()).append(words).append('\n');
        }
    }

    List<String> sectionNames() {
        return List.copyOf(sections.keySet());
    }

    /** Takes words as quoted; answers whether they stand in the section. */
    boolean quote(String section, String words) {
        StringBuilder text = sections.getOrDefault(section, new StringBuilder());
        int at = text.indexOf(words);
        if (at < 0) {
            return false;
        }
        for (int from = at; from >= 0; from = text.indexOf(words, from + 1)) {
            for (int i = from; i < from + words.length(); i++) {
                left.get(section).setCharAt(i, '\u0000');
            }
        }
        return true;
    }

    /** The words of a section that no test has quoted. */
    List<String> neverQuoted(String section) {
        List<String> never = new ArrayList<>();
        Matcher matcher = WORDS_LEFT.matcher(left.get(section));
        while (matcher.find()) {
            never.add(matcher.group().strip());
        }
        return never;
    }
}
