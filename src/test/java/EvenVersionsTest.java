/** Promise 17: evenVersions. */
public final class EvenVersionsTest {
    public static void main(String[] args) {
        BallotPapers x = new BallotPapers();
        Due.is("without contests", x.evenVersions(), 1);
        x.contest(5, 1);
        Due.is("without names", x.evenVersions(), 1);
        x.name(0, 1);
        Due.is("one name", x.evenVersions(), 1);
        x.name(0, 1);
        Due.is("two names as they are", x.evenVersions(), BallotPapers.NOT_FOUND);

        for (int names = 1; names <= 8; names++) {
            BallotPapers one = ofNames(names);
            one.way(0, 1);
            Due.is(names + " names by the way 1", one.evenVersions(), names);
            one.way(0, 2);
            Due.is(names + " names by the way 2", one.evenVersions(),
                    names <= 2 ? names : BallotPapers.NOT_FOUND);
            one.way(0, 0);
            Due.is(names + " names by the way 0", one.evenVersions(),
                    names == 1 ? 1 : BallotPapers.NOT_FOUND);
        }
        two(8, 3, 24);
        two(6, 4, 12);
        two(5, 4, 20);
        two(7, 3, 21);
        two(7, 4, BallotPapers.NOT_FOUND);
        two(5, 7, BallotPapers.NOT_FOUND);

        // Neither the versions nor the papers that there are matter.
        BallotPapers y = ofNames(3);
        y.way(0, 1);
        y.set(5, 2);
        y.papers(0, 50);
        Due.is("with papers", y.evenVersions(), 3);
        Due.is("nothing has changed", y.papersOf(0), 50);
        Due.is("nothing has changed", y.count(15), 2);
        Due.end();
    }

    private static BallotPapers ofNames(int names) {
        return Due.withNames(5, ones(names));
    }

    private static int[] ones(int many) {
        int[] ones = new int[many];
        java.util.Arrays.fill(ones, 1);
        return ones;
    }

    private static void two(int names, int others, int want) {
        BallotPapers x = ofNames(names);
        Due.addContest(x, 5, 1, ones(others));
        x.way(0, 1);
        x.way(1, 1);
        Due.is(names + " and " + others + " names", x.evenVersions(), want);
    }
}
