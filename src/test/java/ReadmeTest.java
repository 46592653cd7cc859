import java.io.IOException;
import java.net.URL;
import java.net.URLClassLoader;
import java.nio.file.Files;
import java.nio.file.Path;
import java.util.ArrayList;
import java.util.Comparator;
import java.util.HashSet;
import java.util.List;
import java.util.Map;
import java.util.Set;
import java.util.TreeSet;
import java.util.regex.Matcher;
import java.util.regex.Pattern;
import java.util.stream.Stream;
import javax.tools.ToolProvider;

/** README.md: its examples answer as they say, and its tables are those of the document. */
public final class ReadmeTest {
    private static final Path README = Path.of("README.md");
    private static final Path DOCUMENT = Path.of("../shared/DOC.md");
    private static final Path TESTS = Path.of("src/test/java");
    private static final String CALL = "`(\\w+)\\(.*\\)`";
    private static final Map<String, Integer> ERRORS = Map.of(
            "INVALID_ARGUMENT", BallotPapers.INVALID_ARGUMENT,
            "NOT_POSSIBLE", BallotPapers.NOT_POSSIBLE,
            "LIMIT_REACHED", BallotPapers.LIMIT_REACHED,
            "NOT_FOUND", BallotPapers.NOT_FOUND);

    private ReadmeTest() {
    }

    public static void main(String[] args) throws Exception {
        Readme readme = new Readme(README);
        Document document = new Document(DOCUMENT);
        examples(readme);
        Set<String> errors = calls(readme, document);
        errorsAreShown(readme, errors);
        errorsInOrder(readme);
        settings(readme);
        tests(readme);
        Due.end();
    }

    private static void examples(Readme readme) throws Exception {
        List<Readme.Example> examples = readme.examples();
        List<?> answers = run(readme.program("ReadmeCalls"), "ReadmeCalls");
        Due.is("examples", answers.size(), examples.size());
        for (int i = 0; i < Math.min(answers.size(), examples.size()); i++) {
            String due = examples.get(i).answer();
            int want = ERRORS.containsKey(due) ? ERRORS.get(due) : Integer.parseInt(due);
            Due.is("example " + i + ", " + examples.get(i).code(), (Integer) answers.get(i), want);
        }
    }

    private static List<?> run(String program, String name) throws Exception {
        Path folder = Files.createTempDirectory("readme");
        try {
            Path source = Files.writeString(folder.resolve(name + ".java"), program);
            int failed = ToolProvider.getSystemJavaCompiler().run(null, null, null, "-cp",
                    System.getProperty("java.class.path"), "-d", folder.toString(),
                    source.toString());
            Due.is("the examples compile", failed, 0);
            if (failed != 0) {
                return List.of();
            }
            try (URLClassLoader loader = new URLClassLoader(new URL[] {folder.toUri().toURL()})) {
                return (List<?>) loader.loadClass(name).getMethod("answers").invoke(null);
            }
        } finally {
            remove(folder);
        }
    }

    private static void remove(Path folder) throws IOException {
        try (Stream<Path> files = Files.walk(folder)) {
            for (Path file : files.sorted(Comparator.reverseOrder()).toList()) {
                Files.delete(file);
            }
        }
    }

    /** The calls of each group with their arguments and errors; answers "call error" each. */
    private static Set<String> calls(Readme readme, Document document) {
        Set<String> errors = new TreeSet<>();
        Pattern group = Pattern.compile("Ahead of the calls (.*) the interface says: ---- (.*)\\.");
        Matcher groups = group.matcher(document.text("Changes and errors"));
        int calls = 0;
        while (groups.find()) {
            List<String> names = new ArrayList<>();
            for (String[] cells : readme.rows(groups.group(2), CALL)) {
                calls++;
                names.add(cells[0].replaceAll(CALL, "`$1`"));
                errors.addAll(errorsOf(document, cells));
            }
            Due.is("calls of " + groups.group(2) + " are " + names,
                    String.join(", ", names).equals(groups.group(1)) ? 1 : 0, 1);
        }
        Due.is("calls in the tables", calls, 22);
        return errors;
    }

    private static Set<String> errorsOf(Document document, String[] cells) {
        String call = cells[0].replaceAll(CALL, "$1");
        String signature = cells[0].replace("`", "").replaceAll("(\\(|, )(?=\\w)", "$1int ");
        Due.is("the document has " + signature, document.says("The public face",
                "    public int " + signature + ";") ? 1 : 0, 1);
        String promise = document.promise(call);
        Set<String> here = new TreeSet<>();
        for (String error : cells[cells.length - 1].split("; ")) {
            Due.is(call + ", the document says: " + error, promise.contains(error) ? 1 : 0, 1);
            here.add(error.replaceAll(" .*", ""));
        }
        here.remove("");
        for (String error : ERRORS.keySet()) {
            Due.is(call + " answers " + error, here.contains(error) ? 1 : 0,
                    promise.contains(error) ? 1 : 0);
        }
        Set<String> named = new TreeSet<>();
        here.forEach(error -> named.add(call + " " + error));
        return named;
    }

    private static void errorsAreShown(Readme readme, Set<String> errors) {
        Set<String> shown = new HashSet<>();
        for (Readme.Example example : readme.examples()) {
            shown.add(example.call() + " " + example.answer());
        }
        // 512 calls can't count 9999 ballots.
        shown.add("cast LIMIT_REACHED");
        for (String error : errors) {
            Due.is("an example shows " + error, shown.contains(error) ? 1 : 0, 1);
        }
    }

    private static void errorsInOrder(Readme readme) {
        List<String[]> rows = readme.rows("Errors", "`[A-Z_]+`");
        Due.is("errors", rows.size(), ERRORS.size());
        for (int i = 0; i < rows.size(); i++) {
            Due.is("value in the row " + i, Integer.parseInt(rows.get(i)[1]), -1 - i);
            Due.is("value of " + rows.get(i)[0],
                    ERRORS.getOrDefault(rows.get(i)[0].replace("`", ""), 0), -1 - i);
        }
    }

    private static void settings(Readme readme) {
        List<String[]> rows = readme.rows("Contests, names, papers", "\\d+");
        Due.is("settings", rows.size(), 6);
        for (int what = 0; what < rows.size(); what++) {
            String[] cells = rows.get(what);
            Due.is("number of a setting", Integer.parseInt(cells[0]), what);
            int first = Integer.parseInt(cells[3]);
            Due.is("setting " + what + " at first", new BallotPapers().count(10 + what), first);
            String[] range = cells[2].replace("0, or ", "").split(" to ");
            for (int value = -1; value <= 99; value++) {
                boolean allowed = value >= Integer.parseInt(range[0])
                        && value <= Integer.parseInt(range[1])
                        || value == 0 && cells[2].startsWith("0, or ");
                Due.is("set(" + what + ", " + value + ")", new BallotPapers().set(what, value),
                        allowed ? first : BallotPapers.INVALID_ARGUMENT);
            }
        }
    }

    /** Each test is in the list, and each file that is named there is one; each promise has one. */
    private static void tests(Readme readme) throws IOException {
        Set<String> there = new TreeSet<>();
        try (Stream<Path> files = Files.list(TESTS)) {
            files.forEach(file -> there.add(file.getFileName().toString().replace(".java", "")));
        }
        Set<String> listed = new TreeSet<>();
        Set<Integer> promises = new TreeSet<>();
        for (String[] cells : readme.rows("How to run its tests", "\\w+Test(, \\w+Test)*")) {
            listed.addAll(List.of(cells[0].split(", ")));
            if (cells[1].matches("[0-9, ]+")) {
                for (String number : cells[1].split(", ")) {
                    promises.add(Integer.parseInt(number));
                }
            }
        }
        Due.is("promises with a test", promises.size(), 23);
        for (String file : there) {
            if (file.endsWith("Test")) {
                Due.is("the list has " + file, listed.contains(file) ? 1 : 0, 1);
            }
        }
        Matcher named = Pattern.compile("`(\\w+)\\.java`|\\b(\\w+Test)\\b").matcher(readme.text());
        while (named.find()) {
            String file = named.group(1) != null ? named.group(1) : named.group(2);
            Due.is("there is " + file, there.contains(file) || file.equals("Mine") ? 1 : 0, 1);
        }
    }
}
