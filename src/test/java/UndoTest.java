/** Promise 19: undo, and the history. */
public final class UndoTest {
    public static void main(String[] args) {
        eachChange();
        fourStates();
        whatIsNoChange();
        Due.end();
    }

    private static void eachChange() {
        BallotPapers x = new BallotPapers();
        x.contest(5, 2);
        Due.is("undo of contest", x.undo(), 0);
        Due.is("contests", x.count(0), 0);
        x.contest(5, 2);
        x.name(0, 3);
        x.name(0, 4);
        Due.is("undo of name", x.undo(), 2);
        Due.is("names", x.contestOf(0, 3), 1);
        Due.is("gone", x.nameOf(0, 1, 0), BallotPapers.INVALID_ARGUMENT);
        x.way(0, 1);
        Due.is("undo of way", x.undo(), 2);
        Due.is("way", x.contestOf(0, 2), 0);
        x.papers(0, 12);
        Due.is("undo of papers", x.undo(), 2);
        Due.is("papers", x.papersOf(0), 0);
        x.set(2, 30);
        Due.is("undo of set", x.undo(), 2);
        Due.is("width", x.count(12), 20);
        Due.written(x, "0:a0");
        x.cast();
        Due.is("votes", x.nameOf(0, 0, 1), 1);
        x.clear();
        Due.is("undo of clear", x.undo(), 3);
        Due.is("ballots", x.count(3), 1);
        Due.is("votes", x.nameOf(0, 0, 1), 1);
        Due.is("undo of cast", x.undo(), 2);
        Due.is("ballots", x.count(3), 0);
        Due.is("votes", x.nameOf(0, 0, 1), 0);
        Due.is("the text stays", x.count(5), 4);
        Due.is("name after the cast is undone", x.name(0, 1), 1);

        Due.written(x, "0:");
        x.cast();
        Due.is("blank", x.contestOf(0, 6), 1);
        x.undo();
        Due.is("blank", x.contestOf(0, 6), 0);
        x.name(0, 1);
        Due.written(x, "0:a0,a1,a2");
        x.cast();
        Due.is("spoilt", x.contestOf(0, 5), 1);
        x.undo();
        Due.is("spoilt", x.contestOf(0, 5), 0);
        Due.is("seats", x.contestOf(0, 1), 2);
        Due.is("title", x.contestOf(0, 0), 5);
    }

    private static void fourStates() {
        BallotPapers x = new BallotPapers();
        for (int width = 21; width <= 29; width++) {
            x.set(2, width);
            Due.is("states", x.count(4), Math.min(4, width - 20));
        }
        for (int left = 3; left >= 0; left--) {
            Due.is("undo()", x.undo(), left);
            Due.is("states", x.count(4), left);
            Due.is("width", x.count(12), 25 + left);
        }
        Due.is("undo() of nothing", x.undo(), BallotPapers.NOT_POSSIBLE);
        Due.is("width", x.count(12), 25);
        x.set(2, 33);
        Due.is("states", x.count(4), 1);
        Due.is("undo()", x.undo(), 0);
        Due.is("width", x.count(12), 25);
        Due.is("undo() of nothing", x.undo(), BallotPapers.NOT_POSSIBLE);
    }

    private static void whatIsNoChange() {
        BallotPapers x = Due.withNames(5, 1);
        Due.is("states", x.count(4), 2);
        x.contest(0, 1);
        x.name(1, 1);
        x.way(0, 3);
        x.papers(1, 1);
        x.set(4, 3);
        x.cast();
        Due.typed(x, "0:a0");
        x.fault(0);
        x.clearText();
        x.bestWidth(0);
        x.evenVersions();
        x.spread(0);
        x.lies(0, 0, 0, 0);
        x.markAt(0, 0, 0, 0, 0);
        x.paper(0, 0);
        Due.is("states", x.count(4), 2);
        // A change that sets what is there already is a change.
        x.set(2, 20);
        x.way(0, 0);
        Due.is("states", x.count(4), 4);
        Due.typed(x, "abc");
        x.undo();
        Due.is("the text stays", x.count(5), 3);
    }
}
