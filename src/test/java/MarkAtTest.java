/** Promise 14: markAt. */
public final class MarkAtTest {
    public static void main(String[] args) {
        BallotPapers x = new BallotPapers();
        x.set(1, 16);
        x.set(2, 8);
        Due.addContest(x, 8, 1);
        Due.addContest(x, 8, 1, 20, 20, 20, 20, 20, 20, 20, 20);
        Due.addContest(x, 8, 1, 5);
        due(x, 0, 0, 1, 1, 0);
        due(x, 0, 0, 9, 1, 2);
        due(x, 0, 1, 0, 1, 3);
        due(x, 0, 1, 12, 1, 6);
        due(x, 1, 0, 0, 1, 7);
        due(x, 1, 0, 6, 2, 0);
        none(x, 0, 0, 0);
        none(x, 0, 0, 2);
        none(x, 0, 1, 15);
        none(x, 1, 0, 5);
        none(x, 1, 1, 0);
        none(x, 2, 0, 0);
        none(x, Integer.MAX_VALUE, 1, 0);
        // So many pages that the columns ahead of them are no int any more.
        x.set(0, 4);
        none(x, 1 << 30, 0, 1);
        due(x, 0, 2, 6, 2, 0);
        x.set(0, 2);
        none(x, 1 << 30, 0, 1);

        int[][] wrong = {{-1, 0, 0, 1, 0}, {1, 0, 0, 1, 0}, {0, -1, 0, 1, 0}, {0, 0, -1, 1, 0},
            {0, 0, 2, 1, 0}, {0, 0, 0, -1, 0}, {0, 0, 0, 16, 0}, {0, 0, 0, 1, -1},
            {0, 0, 0, 1, 2}, {0, Integer.MIN_VALUE, 0, 1, 0}, {0, 0, Integer.MAX_VALUE, 1, 0},
            {0, 0, 0, Integer.MAX_VALUE, 0}, {0, 0, 0, 0, 2}};
        for (int[] w : wrong) {
            Due.is("markAt(" + w[0] + ", " + w[1] + ", " + w[2] + ", " + w[3] + ", " + w[4] + ")",
                    x.markAt(w[0], w[1], w[2], w[3], w[4]), BallotPapers.INVALID_ARGUMENT);
        }

        BallotPapers turned = Due.withNames(20, 18, 5, 5);
        turned.set(5, 2);
        turned.way(0, 2);
        Due.is("version 1, line 1", turned.markAt(1, 0, 0, 1, 1), 2);
        Due.is("version 1, line 3", turned.markAt(1, 0, 0, 3, 1), 0);
        Due.is("version 0, line 3", turned.markAt(0, 0, 0, 3, 1), 1);
        Due.is("last line", turned.markAt(0, 0, 1, 23, 0), BallotPapers.NOT_FOUND);
        Due.is("behind the last", turned.markAt(0, 0, 1, 24, 0), BallotPapers.INVALID_ARGUMENT);
        Due.end();
    }

    private static void due(BallotPapers x, int page, int column, int line, int contest, int name) {
        String where = "page " + page + ", column " + column + ", line " + line + ": ";
        Due.is(where + "contest", x.markAt(0, page, column, line, 0), contest);
        Due.is(where + "name", x.markAt(0, page, column, line, 1), name);
    }

    private static void none(BallotPapers x, int page, int column, int line) {
        due(x, page, column, line, BallotPapers.NOT_FOUND, BallotPapers.NOT_FOUND);
    }
}
