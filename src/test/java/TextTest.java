/** Promises 20 and 21: type, clearText. */
public final class TextTest {
    public static void main(String[] args) {
        BallotPapers x = new BallotPapers();
        int[] wrong = {31, 127, 0, -1, 1000, Integer.MIN_VALUE, Integer.MAX_VALUE};
        for (int character : wrong) {
            Due.is("type(" + character + ")", x.type(character), BallotPapers.INVALID_ARGUMENT);
        }
        Due.is("length after errors", x.count(5), 0);
        Due.is("clearText() of nothing", x.clearText(), 0);
        Due.is("type(32)", x.type(32), 1);
        Due.is("type(126)", x.type(126), 2);
        for (int i = 3; i <= 40; i++) {
            Due.is("type of the character " + i, x.type('a'), i);
        }
        Due.is("one too many", x.type('a'), BallotPapers.LIMIT_REACHED);
        Due.is("a wrong one too many", x.type(31), BallotPapers.INVALID_ARGUMENT);
        Due.is("length", x.count(5), 40);
        Due.is("no change", x.count(4), 0);
        Due.is("clearText()", x.clearText(), 40);
        Due.is("length", x.count(5), 0);
        Due.is("clearText() again", x.clearText(), 0);
        Due.is("type after clearText", x.type('0'), 1);
        Due.is("type", x.type(':'), 2);
        Due.is("nothing of the old text", x.fault(0), BallotPapers.NOT_FOUND);
        Due.end();
    }
}
