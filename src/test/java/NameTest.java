/** Promise 3: name. */
public final class NameTest {
    public static void main(String[] args) {
        BallotPapers x = new BallotPapers();
        Due.is("name without a contest", x.name(0, 5), BallotPapers.INVALID_ARGUMENT);
        x.contest(5, 1);
        x.contest(5, 1);
        int[][] wrong = {{-1, 5}, {2, 5}, {0, 0}, {0, 21}, {0, -3},
            {Integer.MIN_VALUE, 5}, {Integer.MAX_VALUE, 5}, {0, Integer.MAX_VALUE}};
        for (int[] w : wrong) {
            Due.is("name(" + w[0] + ", " + w[1] + ")", x.name(w[0], w[1]),
                    BallotPapers.INVALID_ARGUMENT);
        }
        Due.is("names after errors", x.count(1), 0);
        Due.is("states after errors", x.count(4), 2);

        for (int i = 0; i < 8; i++) {
            Due.is("name " + i + " of 1", x.name(1, i + 13), i);
        }
        for (int i = 0; i < 8; i++) {
            Due.is("length of " + i, x.nameOf(1, i, 0), i + 13);
        }
        Due.is("a ninth", x.name(1, 5), BallotPapers.LIMIT_REACHED);
        Due.is("a ninth of a wrong length", x.name(1, 21), BallotPapers.INVALID_ARGUMENT);
        Due.is("name(0, 1)", x.name(0, 1), 0);
        Due.is("names of 0", x.contestOf(0, 3), 1);
        Due.is("names of 1", x.contestOf(1, 3), 8);

        Due.written(x, "0:b7");
        x.cast();
        Due.is("name after a ballot", x.name(0, 1), BallotPapers.NOT_POSSIBLE);
        Due.is("a ninth after a ballot", x.name(1, 1), BallotPapers.NOT_POSSIBLE);
        Due.is("wrong length after a ballot", x.name(0, 0), BallotPapers.INVALID_ARGUMENT);
        Due.is("wrong contest after a ballot", x.name(2, 1), BallotPapers.INVALID_ARGUMENT);
        x.clear();
        Due.is("name after clear", x.name(0, 20), 1);
        Due.is("a ninth after clear", x.name(1, 1), BallotPapers.LIMIT_REACHED);
        Due.end();
    }
}
