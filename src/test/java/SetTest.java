/** Promise 6: set. */
public final class SetTest {
    private static final int[] LEAST = {1, 16, 8, 1, 4, 1};
    private static final int[] MOST = {4, 60, 40, 3, 30, 24};
    private static final int[] FIRST = {2, 24, 20, 1, 0, 1};

    public static void main(String[] args) {
        BallotPapers x = new BallotPapers();
        for (int what = 0; what < 6; what++) {
            int[] wrong = {LEAST[what] - 1, MOST[what] + 1, -1, Integer.MIN_VALUE,
                Integer.MAX_VALUE};
            for (int value : wrong) {
                Due.is("set(" + what + ", " + value + ")", x.set(what, value),
                        BallotPapers.INVALID_ARGUMENT);
            }
            Due.is("setting " + what + " after errors", x.count(10 + what), FIRST[what]);
        }
        int[] wrongWhat = {-1, 6, 10, Integer.MIN_VALUE, Integer.MAX_VALUE};
        for (int what : wrongWhat) {
            Due.is("set(" + what + ", 1)", x.set(what, 1), BallotPapers.INVALID_ARGUMENT);
            Due.is("set(" + what + ", 0)", x.set(what, 0), BallotPapers.INVALID_ARGUMENT);
        }
        Due.is("set(4, 1)", x.set(4, 1), BallotPapers.INVALID_ARGUMENT);
        Due.is("set(4, 2)", x.set(4, 2), BallotPapers.INVALID_ARGUMENT);
        Due.is("states after errors", x.count(4), 0);

        for (int what = 0; what < 6; what++) {
            Due.is("set least of " + what, x.set(what, LEAST[what]), FIRST[what]);
            Due.is("setting", x.count(10 + what), LEAST[what]);
            Due.is("set most of " + what, x.set(what, MOST[what]), LEAST[what]);
            Due.is("setting", x.count(10 + what), MOST[what]);
        }
        Due.is("set(4, 0)", x.set(4, 0), 30);
        Due.is("no fold", x.count(14), 0);
        for (int what = 0; what < 4; what++) {
            Due.is("set(" + what + ", 0)", x.set(what, 0), BallotPapers.INVALID_ARGUMENT);
        }
        Due.is("set(5, 0)", x.set(5, 0), BallotPapers.INVALID_ARGUMENT);

        papersOfVersionsThatAreGone();
        Due.end();
    }

    private static void papersOfVersionsThatAreGone() {
        BallotPapers x = new BallotPapers();
        x.set(5, 4);
        for (int version = 0; version < 4; version++) {
            x.papers(version, 10 + version);
        }
        x.set(5, 2);
        Due.is("papers of two versions", x.count(2), 21);
        Due.is("papersOf(2)", x.papersOf(2), BallotPapers.INVALID_ARGUMENT);
        x.set(5, 4);
        Due.is("papers stay gone", x.count(2), 21);
        Due.is("papersOf(1)", x.papersOf(1), 11);
        Due.is("papersOf(2)", x.papersOf(2), 0);
        Due.is("papersOf(3)", x.papersOf(3), 0);
        x.undo();
        x.undo();
        Due.is("papers are back with undo", x.count(2), 46);

        x.contest(1, 1);
        Due.written(x, "0:");
        x.cast();
        Due.is("set after a ballot", x.set(5, 1), 4);
        // Another setting leaves the papers as they are.
        x.set(3, 2);
        Due.is("papers", x.count(2), 10);
    }
}
