/** Promise 1: a new object. */
public final class NewObjectTest {
    public static void main(String[] args) {
        BallotPapers x = new BallotPapers();
        for (int what = 0; what <= 5; what++) {
            Due.is("count(" + what + ") of a new object", x.count(what), 0);
        }
        int[] settings = {2, 24, 20, 1, 0, 1};
        for (int i = 0; i < settings.length; i++) {
            Due.is("count(" + (10 + i) + ") of a new object", x.count(10 + i), settings[i]);
        }
        Due.is("papersOf(0)", x.papersOf(0), 0);
        Due.is("papersOf(1)", x.papersOf(1), BallotPapers.INVALID_ARGUMENT);
        Due.is("contestOf(0, 0)", x.contestOf(0, 0), BallotPapers.INVALID_ARGUMENT);
        Due.is("undo()", x.undo(), BallotPapers.NOT_POSSIBLE);
        Due.is("fault(0)", x.fault(0), 0);
        Due.is("fault(1)", x.fault(1), 1);
        for (int what = 0; what <= 4; what++) {
            Due.is("paper(0, " + what + ") without contests", x.paper(0, what), 0);
        }
        Due.is("markAt(0, 0, 0, 0, 0)", x.markAt(0, 0, 0, 0, 0), BallotPapers.NOT_FOUND);

        BallotPapers other = new BallotPapers();
        x.contest(1, 1);
        x.type('0');
        Due.is("count(0) of another object", other.count(0), 0);
        Due.is("count(5) of another object", other.count(5), 0);
        Due.end();
    }
}
