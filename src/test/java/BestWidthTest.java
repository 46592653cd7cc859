/** Promise 18: bestWidth. */
public final class BestWidthTest {
    public static void main(String[] args) {
        BallotPapers x = new BallotPapers();
        due(x, 8, 0);
        x.set(0, 1);
        x.set(1, 16);
        x.set(2, 30);
        Due.addContest(x, 8, 1, 10, 10, 10);
        due(x, 8, 1);
        // Eight names of two lines by the width 8 to 12, of one by the width 13.
        BallotPapers y = new BallotPapers();
        y.set(0, 1);
        y.set(1, 16);
        Due.addContest(y, 8, 1, 10, 10, 10, 10, 10, 10, 10, 10);
        due(y, 13, 1);
        Due.is("the width stays", y.count(12), 20);
        Due.is("pages of the paper", y.paper(0, 0), 1);
        y.set(2, 12);
        Due.is("pages of a narrow paper", y.paper(0, 0), 2);
        y.set(0, 2);
        due(y, 8, 1);
        Due.is("states", y.count(4), 4);

        // Names of 6 take two lines by the width 8, one by the width 9.
        BallotPapers six = new BallotPapers();
        six.set(0, 1);
        six.set(1, 16);
        Due.addContest(six, 8, 1, 6, 6, 6, 6, 6, 6, 6, 6);
        due(six, 9, 1);

        // By the width 8 the version 1 has one column and the version 0, for its folds, two.
        BallotPapers folded = new BallotPapers();
        folded.set(0, 1);
        folded.set(1, 16);
        folded.set(4, 5);
        folded.set(5, 2);
        Due.addContest(folded, 8, 1, 20, 20, 20, 1, 1);
        folded.way(0, 2);
        due(folded, 10, 1);
        folded.set(2, 8);
        Due.is("pages of the version 0", folded.paper(0, 0), 2);
        Due.is("pages of the version 1", folded.paper(1, 0), 1);

        // The order of the version 0 decides, whichever versions there are.
        BallotPapers z = new BallotPapers();
        z.set(0, 1);
        z.set(1, 16);
        z.set(5, 2);
        Due.addContest(z, 8, 1, 20, 20, 20);
        Due.addContest(z, 8, 1, 1, 6);
        z.way(1, 2);
        z.set(4, 30);
        // By 8 and 9: names of 4 lines at 1, 5, 9, a title at 14, the name 0 at 15, and the
        // other one in a new column. By 10: names of 3 lines, and all is in one column.
        due(z, 10, 1);

        // Six contests of eight names are more than one page by any width.
        BallotPapers full = new BallotPapers();
        full.set(0, 1);
        full.set(1, 16);
        for (int contest = 0; contest < 6; contest++) {
            Due.addContest(full, 20, 1, 20, 20, 20, 20, 20, 20, 20, 20);
        }
        Due.is("pages by the best width", full.bestWidth(1), pagesBy(full, full.bestWidth(0)));
        for (int width = 8; width <= 40; width++) {
            boolean fewer = pagesBy(full, width) < full.bestWidth(1);
            boolean first = width < full.bestWidth(0)
                    && pagesBy(full, width) == full.bestWidth(1);
            Due.is("width " + width + " is better", fewer || first ? 1 : 0, 0);
        }

        int[] wrong = {-1, 2, Integer.MIN_VALUE, Integer.MAX_VALUE};
        for (int what : wrong) {
            Due.is("bestWidth(" + what + ")", x.bestWidth(what), BallotPapers.INVALID_ARGUMENT);
        }
        Due.end();
    }

    private static void due(BallotPapers x, int width, int pages) {
        Due.is("bestWidth(0)", x.bestWidth(0), width);
        Due.is("bestWidth(1)", x.bestWidth(1), pages);
    }

    private static int pagesBy(BallotPapers x, int width) {
        x.set(2, width);
        return x.paper(0, 0);
    }
}
