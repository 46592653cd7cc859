/** Promise 8: contestOf. */
public final class ContestOfTest {
    public static void main(String[] args) {
        BallotPapers x = new BallotPapers();
        Due.addContest(x, 7, 2, 1, 2, 3);
        Due.addContest(x, 9, 1, 4, 5);
        Due.addContest(x, 11, 3);
        x.way(1, 2);
        String[] ballots = {"0:a0,a2", "0:a2,b1", "0:a0,a1,a2,b0", "0:b0,b1", "0:", "0:b1"};
        int[] more = {2, 2, 1, 0, 0, 1};
        for (int i = 0; i < ballots.length; i++) {
            Due.written(x, ballots[i]);
            Due.is("cast of " + ballots[i], x.cast(), more[i]);
        }
        int[][] want = {{7, 2, 0, 3, 3, 1, 3}, {9, 1, 2, 2, 3, 1, 2}, {11, 3, 0, 0, 0, 0, 0}};
        for (int contest = 0; contest < want.length; contest++) {
            for (int what = 0; what < 7; what++) {
                Due.is("contestOf(" + contest + ", " + what + ")", x.contestOf(contest, what),
                        want[contest][what]);
            }
        }
        int[][] wrong = {{-1, 0}, {3, 0}, {0, -1}, {0, 7},
            {Integer.MIN_VALUE, 0}, {Integer.MAX_VALUE, 0}, {0, Integer.MAX_VALUE}};
        for (int[] w : wrong) {
            Due.is("contestOf(" + w[0] + ", " + w[1] + ")", x.contestOf(w[0], w[1]),
                    BallotPapers.INVALID_ARGUMENT);
        }
        Due.end();
    }
}
