import java.io.IOException;
import java.nio.file.Files;
import java.nio.file.Path;
import java.util.LinkedHashMap;
import java.util.List;
import java.util.Map;

/** The sections of the document. */
final class Document {
    private static final List<String> PLAIN_HEADINGS = List.of("Contests, names",
            "Lines, columns, pages", "Papers, first names", "Ballots, texts");

    private final Map<String, String> sections = new LinkedHashMap<>();

    Document(Path file) throws IOException {
        String section = "";
        for (String line : Files.readAllLines(file)) {
            if (line.startsWith("#") || PLAIN_HEADINGS.contains(line)) {
                section = line.replaceAll("^#+ ", "");
                sections.put(section, "");
            } else {
                sections.merge(section, line + "\n", String::concat);
            }
        }
    }

    Iterable<String> headings() {
        return sections.keySet();
    }

    String text(String section) {
        return sections.getOrDefault(section, "");
    }

    /** The text of the promise of a call; nothing, if there is none. */
    String promise(String call) {
        for (String heading : sections.keySet()) {
            if (heading.matches("Promise \\d+: " + call)) {
                return text(heading);
            }
        }
        return "";
    }

    boolean says(String section, String words) {
        return text(section).contains(words);
    }

    /** What a section says beside these words and the "and" between them; nothing, if all. */
    String beside(String section, List<String> words) {
        String text = sections.getOrDefault(section, "");
        StringBuilder left = new StringBuilder(text);
        for (String known : words) {
            for (int at = text.indexOf(known); at >= 0; at = text.indexOf(known, at + 1)) {
                left.replace(at, at + known.length(), " ".repeat(known.length()));
            }
        }
        String rest = left.toString().replaceAll("`int [^`]*\\)`: ", "")
                .replaceAll("\\s+", " ").trim();
        return rest.replaceAll("\\band\\b", "").matches(".*[A-Za-z0-9].*") ? rest : "";
    }
}
