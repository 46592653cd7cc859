/** Promise 2: contest. */
public final class ContestTest {
    public static void main(String[] args) {
        BallotPapers x = new BallotPapers();
        int[][] wrong = {{0, 1}, {21, 1}, {-1, 1}, {1, 0}, {1, 4}, {1, -1},
            {Integer.MIN_VALUE, 1}, {Integer.MAX_VALUE, 1}, {1, Integer.MAX_VALUE}};
        for (int[] w : wrong) {
            Due.is("contest(" + w[0] + ", " + w[1] + ")", x.contest(w[0], w[1]),
                    BallotPapers.INVALID_ARGUMENT);
        }
        Due.is("contests after errors", x.count(0), 0);
        Due.is("states after errors", x.count(4), 0);

        Due.is("contest(1, 1)", x.contest(1, 1), 0);
        Due.is("contest(20, 3)", x.contest(20, 3), 1);
        Due.is("title of 0", x.contestOf(0, 0), 1);
        Due.is("seats of 0", x.contestOf(0, 1), 1);
        Due.is("title of 1", x.contestOf(1, 0), 20);
        Due.is("seats of 1", x.contestOf(1, 1), 3);
        Due.is("way of 1", x.contestOf(1, 2), 0);
        Due.is("names of 1", x.contestOf(1, 3), 0);
        Due.is("states", x.count(4), 2);

        Due.written(x, "0:");
        Due.is("cast()", x.cast(), 0);
        Due.is("contest(7, 2) after a ballot", x.contest(7, 2), 2);
        Due.is("contest 3", x.contest(7, 2), 3);
        Due.is("contest 4", x.contest(7, 2), 4);
        Due.is("contest 5", x.contest(7, 2), 5);
        Due.is("a seventh", x.contest(7, 2), BallotPapers.LIMIT_REACHED);
        Due.is("a seventh with a wrong title", x.contest(0, 2), BallotPapers.INVALID_ARGUMENT);
        Due.is("a seventh with wrong seats", x.contest(1, 4), BallotPapers.INVALID_ARGUMENT);
        Due.is("contests", x.count(0), 6);

        // What a contest had that was undone does not come back with its number.
        BallotPapers y = Due.withNames(3, 4, 5);
        y.way(0, 2);
        y.undo();
        y.undo();
        y.undo();
        y.undo();
        Due.is("contests after undo", y.count(0), 0);
        Due.is("contest(9, 2) after undo", y.contest(9, 2), 0);
        Due.is("names", y.contestOf(0, 3), 0);
        Due.is("way", y.contestOf(0, 2), 0);
        Due.end();
    }
}
