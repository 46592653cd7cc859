/** Promise 12: stands. */
public final class StandsTest {
    public static void main(String[] args) {
        BallotPapers x = Due.withNames(5, 1, 2, 3, 4);
        Due.addContest(x, 5, 1);
        x.set(5, 24);
        order(x, 0, 0, 1, 2, 3);
        order(x, 3, 0, 1, 2, 3);
        x.way(0, 1);
        order(x, 0, 0, 1, 2, 3);
        order(x, 1, 1, 2, 3, 0);
        order(x, 3, 3, 0, 1, 2);
        order(x, 4, 0, 1, 2, 3);
        order(x, 23, 3, 0, 1, 2);
        x.way(0, 2);
        order(x, 0, 0, 1, 2, 3);
        order(x, 1, 3, 2, 1, 0);
        order(x, 22, 0, 1, 2, 3);
        order(x, 23, 3, 2, 1, 0);

        Due.is("a place too many", x.stands(0, 0, 4), BallotPapers.NOT_FOUND);
        Due.is("a place far off", x.stands(1, 0, Integer.MAX_VALUE), BallotPapers.NOT_FOUND);
        Due.is("no names", x.stands(0, 1, 0), BallotPapers.NOT_FOUND);
        int[][] wrong = {{-1, 0, 0}, {24, 0, 0}, {0, -1, 0}, {0, 2, 0}, {0, 0, -1}, {0, 1, -1},
            {24, 0, 9}, {0, 2, 9}, {Integer.MIN_VALUE, 0, 0}, {Integer.MAX_VALUE, 0, 0},
            {0, Integer.MIN_VALUE, 0}, {0, 0, Integer.MIN_VALUE}};
        for (int[] w : wrong) {
            Due.is("stands(" + w[0] + ", " + w[1] + ", " + w[2] + ")",
                    x.stands(w[0], w[1], w[2]), BallotPapers.INVALID_ARGUMENT);
        }
        x.set(5, 3);
        Due.is("a version that is gone", x.stands(3, 0, 0), BallotPapers.INVALID_ARGUMENT);
        Due.end();
    }

    private static void order(BallotPapers x, int version, int... names) {
        for (int place = 0; place < names.length; place++) {
            Due.is("stands(" + version + ", 0, " + place + ")", x.stands(version, 0, place),
                    names[place]);
        }
    }
}
