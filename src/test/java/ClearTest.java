/** Promise 7: clear. */
public final class ClearTest {
    public static void main(String[] args) {
        BallotPapers x = Due.withNames(5, 1, 2);
        Due.addContest(x, 5, 1, 3, 4);
        Due.is("clear() without ballots", x.clear(), 0);
        Due.is("it is a change", x.count(4), 4);
        Due.written(x, "0:a0,b0,b1");
        x.cast();
        x.cast();
        Due.written(x, "0:");
        x.cast();
        Due.is("ballots", x.count(3), 3);
        Due.is("votes", x.contestOf(0, 4), 2);
        Due.is("blank", x.contestOf(0, 6), 1);
        Due.is("spoilt", x.contestOf(1, 5), 2);
        Due.is("clear()", x.clear(), 3);
        Due.is("ballots", x.count(3), 0);
        Due.is("votes of 0", x.contestOf(0, 4), 0);
        Due.is("votes of the name", x.nameOf(0, 0, 1), 0);
        Due.is("blank", x.contestOf(0, 6), 0);
        Due.is("spoilt", x.contestOf(1, 5), 0);
        Due.is("contests stay", x.count(0), 2);
        Due.is("names stay", x.count(1), 4);
        Due.is("the text stays", x.count(5), 2);
        Due.is("name", x.name(0, 3), 2);
        x.undo();
        Due.is("undo of clear", x.undo(), 2);
        Due.is("ballots", x.count(3), 3);
        Due.is("votes of the name", x.nameOf(0, 0, 1), 2);
        Due.is("spoilt", x.contestOf(1, 5), 2);

        BallotPapers y = Due.withNames(5, 1, 2);
        Due.written(y, "0:a0,a1");
        y.cast();
        Due.is("spoilt in the contest 0", y.contestOf(0, 5), 1);
        Due.is("clear()", y.clear(), 1);
        Due.is("spoilt in the contest 0", y.contestOf(0, 5), 0);
        Due.end();
    }
}
