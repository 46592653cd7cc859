/** Promises 5 and 11: papers, papersOf. */
public final class PapersTest {
    public static void main(String[] args) {
        BallotPapers x = new BallotPapers();
        x.set(5, 3);
        int[][] wrong = {{-1, 5}, {3, 5}, {0, -1}, {0, 10000},
            {Integer.MIN_VALUE, 5}, {Integer.MAX_VALUE, 5}, {0, Integer.MAX_VALUE}};
        for (int[] w : wrong) {
            Due.is("papers(" + w[0] + ", " + w[1] + ")", x.papers(w[0], w[1]),
                    BallotPapers.INVALID_ARGUMENT);
        }
        Due.is("states after errors", x.count(4), 1);
        Due.is("papers after errors", x.count(2), 0);
        Due.is("papers(0, 9999)", x.papers(0, 9999), 0);
        Due.is("papers(2, 7)", x.papers(2, 7), 0);
        Due.is("papers(2, 9)", x.papers(2, 9), 7);
        Due.is("states", x.count(4), 4);
        Due.is("papersOf(0)", x.papersOf(0), 9999);
        Due.is("papersOf(1)", x.papersOf(1), 0);
        Due.is("papersOf(2)", x.papersOf(2), 9);
        Due.is("all papers", x.count(2), 10008);
        Due.is("papers(0, 0)", x.papers(0, 0), 9999);
        Due.is("papersOf(0)", x.papersOf(0), 0);
        Due.is("papersOf(-1)", x.papersOf(-1), BallotPapers.INVALID_ARGUMENT);
        Due.is("papersOf(3)", x.papersOf(3), BallotPapers.INVALID_ARGUMENT);
        Due.is("papersOf(min)", x.papersOf(Integer.MIN_VALUE), BallotPapers.INVALID_ARGUMENT);
        Due.is("papersOf(max)", x.papersOf(Integer.MAX_VALUE), BallotPapers.INVALID_ARGUMENT);

        x.contest(1, 1);
        Due.written(x, "0:");
        x.cast();
        Due.is("papers after a ballot", x.papers(1, 3), 0);
        x.set(5, 24);
        Due.is("papers(23, 1)", x.papers(23, 1), 0);
        Due.is("papers(24, 1)", x.papers(24, 1), BallotPapers.INVALID_ARGUMENT);
        Due.end();
    }
}
