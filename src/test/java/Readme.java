import java.io.IOException;
import java.nio.file.Files;
import java.nio.file.Path;
import java.util.ArrayList;
import java.util.List;
import java.util.regex.Matcher;
import java.util.regex.Pattern;

/** What README.md says that can be compared: its tables, its examples and its whole text. */
final class Readme {
    private static final Pattern EXAMPLE =
            Pattern.compile("(x\\.(\\w+)\\([^;]*\\));\\s*// (-?\\d+|[A-Z_]+)(:.*)?");

    /** A call with the answer that stands behind it: a number, or the name of an error. */
    record Example(String code, String call, String answer) {
    }

    private final String text;
    private final List<String> lines;
    private final List<Example> examples = new ArrayList<>();
    private final StringBuilder program = new StringBuilder();

    Readme(Path file) throws IOException {
        text = Files.readString(file);
        lines = text.lines().toList();
        boolean java = false;
        for (String line : lines) {
            if (line.startsWith("```")) {
                java = line.equals("```java");
            } else if (java) {
                addCode(line);
            }
        }
    }

    /** What is indented stands in a loop, and a call there has no answer of its own. */
    private void addCode(String line) {
        Matcher example = EXAMPLE.matcher(line);
        if (example.matches()) {
            examples.add(new Example(example.group(1), example.group(2), example.group(3)));
            program.append("answers.add(").append(example.group(1)).append(");\n");
        } else {
            if (line.startsWith("x.")) {
                Due.fails("no answer stands behind " + line);
            }
            program.append(line).append('\n');
        }
    }

    String text() {
        return text;
    }

    List<Example> examples() {
        return examples;
    }

    /** A class whose answers() runs all examples one behind the other. */
    String program(String name) {
        return "public final class " + name + " {\n"
                + "public static java.util.List<Integer> answers() {\n"
                + "java.util.List<Integer> answers = new java.util.ArrayList<>();\n"
                + program + "return answers;\n}\n}\n";
    }

    /** The cells of the rows of the tables under a heading whose first cell is like the pattern. */
    List<String[]> rows(String heading, String firstCell) {
        List<String[]> rows = new ArrayList<>();
        String last = "";
        for (String line : lines) {
            if (line.startsWith("#")) {
                last = line.replaceAll("^#+ ", "");
            } else if (line.startsWith("|") && last.equalsIgnoreCase(heading)) {
                String[] cells = line.substring(1, line.length() - 1).split("\\|", -1);
                for (int i = 0; i < cells.length; i++) {
                    cells[i] = cells[i].trim();
                }
                if (cells[0].matches(firstCell)) {
                    rows.add(cells);
                }
            }
        }
        return rows;
    }
}
