/** Promise 16: spread. */
public final class SpreadTest {
    public static void main(String[] args) {
        BallotPapers x = new BallotPapers();
        Due.addContest(x, 5, 1, 1, 2, 3);
        Due.addContest(x, 5, 1);
        Due.addContest(x, 5, 1, 4);
        Due.addContest(x, 5, 1, 4, 5);
        Due.is("without papers", x.spread(0), 0);
        x.set(5, 4);
        x.papers(0, 10);
        x.papers(1, 5);
        x.papers(2, 7);
        x.papers(3, 1);
        Due.is("way 0", x.spread(0), 23);
        x.way(0, 1);
        Due.is("way 1: 11, 5, 7", x.spread(0), 6);
        x.way(0, 2);
        Due.is("way 2: 17, 0, 6", x.spread(0), 17);
        Due.is("one name", x.spread(2), 0);
        x.way(3, 2);
        Due.is("two names: 17, 6", x.spread(3), 11);
        x.papers(1, 16);
        Due.is("two names: 17, 17", x.spread(3), 0);
        x.papers(3, 9999);
        Due.is("the second more: 17, 10015", x.spread(3), 9998);
        Due.is("no names", x.spread(1), BallotPapers.NOT_FOUND);
        int[] wrong = {-1, 4, Integer.MIN_VALUE, Integer.MAX_VALUE};
        for (int contest : wrong) {
            Due.is("spread(" + contest + ")", x.spread(contest), BallotPapers.INVALID_ARGUMENT);
        }
        Due.end();
    }
}
