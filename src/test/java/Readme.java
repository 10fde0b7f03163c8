import java.io.IOException;
import java.io.UncheckedIOException;
import java.nio.file.Files;
import java.nio.file.Path;
import java.util.ArrayList;
import java.util.LinkedHashMap;
import java.util.List;
import java.util.Map;

/** README.md by the headings in it: the lines of words, and the blocks of code. */
final class Readme {
    private static final Path PLACE = Path.of("README.md");

    /** What stands under one heading. */
    static final class Section {
        final List<String> words = new ArrayList<>();
        /** The lines of each block, by the order of the blocks; the first line is the kind, as "java". */
        final List<List<String>> blocks = new ArrayList<>();
        private boolean inBlock;

        private void add(String line) {
            if (line.startsWith("```")) {
                inBlock = !inBlock;
                if (inBlock) {
                    blocks.add(new ArrayList<>(List.of(line.substring(3))));
                }
            } else if (inBlock) {
                blocks.get(blocks.size() - 1).add(line);
            } else if (!line.isBlank()) {
                words.add(line);
            }
        }

        /** The lines of the only block of a kind. */
        List<String> block(String kind) {
            List<List<String>> found = new ArrayList<>(blocks);
            found.removeIf(block -> !block.get(0).equals(kind));
            if (found.size() != 1) {
                throw new IllegalStateException(found.size() + " blocks of " + kind + " in a section of README.md");
            }
            return found.get(0).subList(1, found.get(0).size());
        }
    }

    private final Map<String, Section> sections = new LinkedHashMap<>();
    /** The headings that are the names of calls. */
    final List<String> calls = new ArrayList<>();

    static Readme read() {
        try {
            return new Readme(Files.readAllLines(PLACE));
        } catch (IOException e) {
            throw new UncheckedIOException(e);
        }
    }

    private Readme(List<String> lines) {
        Section section = new Section();
        for (String line : lines) {
            if (line.startsWith("#") && !section.inBlock) {
                String heading = line.replaceFirst("^#+ ", "");
                section = new Section();
                sections.put(heading, section);
                if (line.startsWith("#### ")) {
                    calls.add(heading);
                }
            } else {
                section.add(line);
            }
        }
    }

    Section section(String heading) {
        Section section = sections.get(heading);
        if (section == null) {
            throw new IllegalStateException("README.md has no heading \"" + heading + "\"");
        }
        return section;
    }
}
