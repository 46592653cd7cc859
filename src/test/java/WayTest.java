/** Promise 4: way. */
public final class WayTest {
    public static void main(String[] args) {
        BallotPapers x = Due.withNames(5, 1, 2, 3);
        x.set(5, 4);
        int states = x.count(4);
        int[][] wrong = {{-1, 1}, {1, 1}, {0, -1}, {0, 3},
            {Integer.MIN_VALUE, 0}, {Integer.MAX_VALUE, 0}, {0, Integer.MIN_VALUE}};
        for (int[] w : wrong) {
            Due.is("way(" + w[0] + ", " + w[1] + ")", x.way(w[0], w[1]),
                    BallotPapers.INVALID_ARGUMENT);
        }
        Due.is("states after errors", x.count(4), states);
        Due.is("way(0, 2)", x.way(0, 2), 0);
        Due.is("the way", x.contestOf(0, 2), 2);
        Due.is("first of version 1", x.stands(1, 0, 0), 2);
        Due.is("way(0, 1)", x.way(0, 1), 2);
        Due.is("first of version 1", x.stands(1, 0, 0), 1);
        Due.is("way(0, 1) again", x.way(0, 1), 1);
        Due.is("way(0, 0)", x.way(0, 0), 1);
        Due.is("first of version 1", x.stands(1, 0, 0), 0);

        Due.written(x, "0:");
        x.cast();
        Due.is("way after a ballot", x.way(0, 1), BallotPapers.NOT_POSSIBLE);
        Due.is("the way stays", x.contestOf(0, 2), 0);
        Due.is("wrong way after a ballot", x.way(0, 3), BallotPapers.INVALID_ARGUMENT);
        Due.is("wrong contest after a ballot", x.way(1, 1), BallotPapers.INVALID_ARGUMENT);
        x.clear();
        Due.is("way after clear", x.way(0, 1), 0);
        Due.end();
    }
}
