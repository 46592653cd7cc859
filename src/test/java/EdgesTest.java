import java.io.IOException;
import java.nio.file.Path;
import java.util.ArrayList;
import java.util.List;
import java.util.Map;

/**
 * Each sentence of the document that names a boundary case, with a test of its own. What the
 * tests quote must stand in the document, and what they don't quote is told here: so a sentence
 * that no test has is seen.
 */
public final class EdgesTest {
    private static final Path DOCUMENT = Path.of("../shared/DOC.md");

    /** Sections that are no promises, and say nothing beside the promises. */
    private static final List<String> NOT_TESTED = List.of("BallotPapers", "The public face",
            "Not promised");

    /** Words that name no boundary: what a call is about, and headings of what is tested. */
    private static final List<String> NO_BOUNDARY = List.of(
            "Ballot papers in versions: contests with names that are turned from version to "
                    + "version, lines and columns that are filled, folds that no mark may lie on, "
                    + "languages of titles, pages, where each name lies, papers of each version, "
                    + "how often a name is first, versions that are even, marks read by their "
                    + "places, ballots as texts that are counted, faults of these by place and "
                    + "reason, and undo.",
            "All numbers are whole numbers. Divisions are rounded up where that is said.",
            "a way by which its names are turned, and",
            "The settings are (in parentheses: range; first value):",
            "Its fault is told by a place and a reason:",
            "Returns something of a contest.",
            "Returns something of a name.",
            "Returns something of a paper.",
            "Returns a number.",
            "Returns how many papers of a version there are.",
            "Returns the name that stands at a place of the order.",
            "Returns where a name lies.",
            "Returns what mark lies at a line.",
            "Returns the number;",
            "Returns the difference;",
            "The constants:",
            "Ahead of the calls `contest`, `name`, `way`, `papers`, `set`, `clear` the interface "
                    + "says: ---- contests, names, papers.",
            "Ahead of the calls `contestOf`, `nameOf`, `count`, `papersOf` the interface says: "
                    + "---- what there is.",
            "Ahead of the calls `stands`, `lies`, `markAt`, `paper` the interface says: ---- "
                    + "orders, places.",
            "Ahead of the calls `spread`, `evenVersions`, `bestWidth`, `undo` the interface says: "
                    + "---- what would be.",
            "Ahead of the calls `type`, `clearText`, `fault`, `cast` the interface says: ---- "
                    + "texts.");

    public static void main(String[] args) throws IOException {
        EdgesOfContests.all();
        EdgesOfLines.all();
        EdgesOfPapers.all();
        EdgesOfTexts.all();
        EdgesOfChanges.all();
        EdgesOfMaking.all();
        EdgesOfAsking.all();
        EdgesOfPlaces.all();
        EdgesOfGuesses.all();
        EdgesOfTyping.all();
        compareWithTheDocument();
        Due.end();
    }

    private static void compareWithTheDocument() throws IOException {
        Document document = new Document(DOCUMENT);
        int sentences = 0;
        for (Map.Entry<String, List<String>> quotes : Edge.quotes().entrySet()) {
            for (String words : quotes.getValue()) {
                sentences++;
                if (!document.says(quotes.getKey(), words)) {
                    Due.fails("the document does not say, in " + quotes.getKey() + ": " + words);
                }
            }
        }
        for (String section : document.headings()) {
            List<String> known = new ArrayList<>(NO_BOUNDARY);
            known.addAll(Edge.quotes().getOrDefault(section, List.of()));
            String rest = NOT_TESTED.contains(section) ? "" : document.beside(section, known);
            if (!rest.isEmpty()) {
                Due.fails("no test has, in " + section + ": " + rest);
            }
        }
        System.out.println(sentences + " sentences have a test of their own");
    }
}
