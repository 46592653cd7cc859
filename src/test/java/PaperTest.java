/** Promise 15: paper. */
public final class PaperTest {
    public static void main(String[] args) {
        BallotPapers x = new BallotPapers();
        Due.addContest(x, 8, 1);
        due(x, 0, 0, 0, 0, 0, 0);

        x.set(1, 16);
        x.set(2, 8);
        Due.addContest(x, 8, 1, 20, 20, 20, 20, 20, 20, 20, 20);
        due(x, 0, 2, 3, 33, 0, 2);
        x.set(0, 1);
        due(x, 0, 3, 3, 33, 0, 2);
        x.set(0, 3);
        due(x, 0, 1, 3, 33, 0, 2);
        x.set(3, 2);
        due(x, 0, 1, 3, 34, 0, 2);

        // A column that begins with a title does not begin with a name.
        BallotPapers title = new BallotPapers();
        title.set(1, 16);
        title.set(2, 8);
        Due.addContest(title, 8, 1, 20, 20, 20);
        Due.addContest(title, 9, 1, 5);
        due(title, 0, 1, 2, 1 + 12 + 2 + 1, 0, 0);

        folds();
        versions();

        int[][] wrong = {{-1, 0}, {1, 0}, {0, -1}, {0, 5},
            {Integer.MIN_VALUE, 0}, {Integer.MAX_VALUE, 0}, {0, Integer.MAX_VALUE}};
        for (int[] w : wrong) {
            Due.is("paper(" + w[0] + ", " + w[1] + ")", x.paper(w[0], w[1]),
                    BallotPapers.INVALID_ARGUMENT);
        }
        Due.end();
    }

    private static void folds() {
        BallotPapers x = Due.withNames(20, 5, 5, 5, 5, 5, 5, 5, 5);
        x.set(4, 4);
        due(x, 0, 1, 1, 9, 2, 0);

        // A name that a fold sends to the next column is not one line later.
        BallotPapers gone = new BallotPapers();
        gone.set(1, 16);
        gone.set(4, 16);
        Due.addContest(gone, 20, 1, 1, 1, 1, 1, 1, 1, 1, 1);
        Due.addContest(gone, 20, 1, 1, 1, 1, 1, 1);
        due(gone, 0, 1, 2, 15, 0, 1);

        // Behind a title that went to the next column a name is later as elsewhere.
        BallotPapers again = new BallotPapers();
        again.set(1, 16);
        again.set(2, 8);
        again.set(4, 4);
        Due.addContest(again, 8, 1, 20, 20, 10);
        Due.addContest(again, 20, 1, 5);
        due(again, 0, 1, 2, 1 + 4 + 4 + 2 + 3 + 1, 1, 0);
    }

    private static void versions() {
        // Names of 4, 4 and 1 lines in columns of 16: the order tells what is left free.
        BallotPapers x = new BallotPapers();
        x.set(1, 16);
        x.set(2, 8);
        x.set(5, 2);
        x.set(4, 5);
        Due.addContest(x, 8, 1, 20, 20, 20, 1);
        x.way(0, 2);
        // 0: title, 1 to 4, 5 to 8, 9 on the fold: 10 to 13, 14 on the fold: 15.
        due(x, 0, 1, 1, 14, 2, 0);
        // 0: title, 1, 2 to 5, 6 to 9, 10 to 13.
        due(x, 1, 1, 1, 14, 0, 0);
    }

    private static void due(BallotPapers x, int version, int... numbers) {
        for (int what = 0; what < numbers.length; what++) {
            Due.is("paper(" + version + ", " + what + ")", x.paper(version, what), numbers[what]);
        }
    }
}
