import java.io.IOException;
import java.io.UncheckedIOException;
import java.nio.charset.StandardCharsets;
import java.nio.file.Files;
import java.nio.file.Path;
import java.util.ArrayList;
import java.util.LinkedHashMap;
import java.util.List;
import java.util.Map;
import java.util.Set;

/** The sentences of ../shared/DOC.md by the headings that they stand under. */
final class Doc {
    private static final Path FILE = Path.of("../shared/DOC.md");

    private final Map<String, List<String>> sections = new LinkedHashMap<>();
    private String section = "";
    private String paragraph = "";

    private Doc() {
    }

    static Doc read() {
        Doc doc = new Doc();
        boolean code = false;
        try {
            for (String line : Files.readAllLines(FILE, StandardCharsets.UTF_8)) {
                code ^= line.startsWith("```");
                if (!code) {
                    doc.take(line.trim());
                }
            }
        } catch (IOException e) {
            throw new UncheckedIOException(e);
        }
        doc.endParagraph();
        return doc;
    }

    private void take(String line) {
        if (line.startsWith("#")) {
            endParagraph();
            // "## Promise 3: addEdge" is called "Promise 3".
            section = line.replaceAll("^#+ *", "").replaceAll(":.*", "");
            sections.put(section, new ArrayList<>());
        } else if (line.isEmpty() || line.startsWith("```")) {
            endParagraph();
        } else {
            if (line.matches("(- |\\d\\. ).*")) {
                endParagraph();
            }
            paragraph = paragraph.isEmpty() ? line : paragraph + " " + line;
        }
    }

    private void endParagraph() {
        // An example is one sentence; its semicolons stand between calls.
        boolean example = paragraph.matches("\\d\\. .*");
        if (!paragraph.isEmpty() && sections.containsKey(section)) {
            String[] parts = example ? new String[] {paragraph} : paragraph.split("(?<=[.;]) +");
            sections.get(section).addAll(List.of(parts));
        }
        paragraph = "";
    }

    Set<String> headings() {
        return sections.keySet();
    }

    /** The sentences under a heading, those with semicolons in their parts. */
    List<String> sentences(String heading) {
        return sections.getOrDefault(heading, List.of());
    }

    String text(String heading) {
        return String.join(" ", sentences(heading));
    }
}
