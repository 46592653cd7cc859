/** The sentences of the promises 16 to 19: what would be, and undo. */
final class EdgesOfGuesses {
    private static final String SPREAD = "Promise 16: spread";
    private static final String EVEN = "Promise 17: evenVersions";
    private static final String WIDTH = "Promise 18: bestWidth";
    private static final String UNDO = "Promise 19: undo";
    private static final int INVALID = BallotPapers.INVALID_ARGUMENT;
    private static final int IMPOSSIBLE = BallotPapers.NOT_POSSIBLE;
    private static final int NOT_FOUND = BallotPapers.NOT_FOUND;

    private EdgesOfGuesses() {
    }

    static void all() {
        spread();
        evenVersions();
        bestWidth();
        undo();
    }

    private static void spread() {
        Edge.of(SPREAD, "Returns the difference between the most and the fewest papers on which a "
                + "name of a contest is first.", () -> {
            // One name: no difference, whatever papers there are.
            BallotPapers one = States.names(1);
            Due.is("one name, no papers", one.spread(0), 0);
            one.papers(0, 9999);
            Due.is("one name", one.spread(0), 0);
            // Two names: the fewest are none, until the second version has papers.
            BallotPapers x = States.names(2);
            x.way(0, 1);
            x.set(5, 4);
            Due.is("no papers", x.spread(0), 0);
            x.papers(0, 9999);
            Due.is("the first version", x.spread(0), 9999);
            x.papers(1, 9998);
            Due.is("one paper less", x.spread(0), 1);
            x.papers(1, 9999);
            Due.is("as many", x.spread(0), 0);
            x.papers(3, 1);
            Due.is("one paper more", x.spread(0), 1);
            x.papers(2, 9999);
            x.papers(3, 9999);
            Due.is("all that there may be", x.spread(0), 0);
            x.way(0, 0);
            Due.is("all for one", x.spread(0), 4 * 9999);
            // The most of the last name, the fewest of a name in the middle.
            BallotPapers y = States.names(3);
            y.way(0, 1);
            y.set(5, 3);
            y.papers(0, 5);
            y.papers(1, 2);
            y.papers(2, 9);
            Due.is("spread(0)", y.spread(0), 7);
            y.papers(0, 1);
            Due.is("the fewest of the first name", y.spread(0), 8);
            y.papers(0, 20);
            Due.is("the most of the first name", y.spread(0), 18);
            Due.is("all versions, all names", States.full().spread(5), 0);
            Due.is("all versions, way 0", States.full().spread(0), 24 * 9999);
        });
        Edge.of(SPREAD, "`contest`: number of the contest", () -> {
            for (int contests = 1; contests <= 6; contests++) {
                BallotPapers x = new BallotPapers();
                for (int contest = 0; contest < contests; contest++) {
                    Due.addContest(x, 1, 1, 1, 1);
                }
                x.papers(0, 7);
                Edge.range("spread(#) of " + contests, 0, contests - 1, x::spread, v -> 7);
            }
        });
        Edge.of(SPREAD, "INVALID_ARGUMENT;", () -> {
            Unchanged state = new Unchanged(States::counted);
            state.byEach("spread(#)", INVALID, Edge.outside(0, 2), (x, v) -> x.spread(v));
            Due.is("spread(0) without contests", new BallotPapers().spread(0), INVALID);
        });
        Edge.of(SPREAD, "NOT_FOUND if it has no names", () -> {
            Unchanged state = new Unchanged(States::counted);
            state.by("spread(1)", NOT_FOUND, x -> x.spread(1));
            BallotPapers x = States.names(0);
            x.papers(0, 9999);
            Due.is("no names", x.spread(0), NOT_FOUND);
            x.name(0, 1);
            Due.is("one name", x.spread(0), 0);
            x.undo();
            Due.is("no names again", x.spread(0), NOT_FOUND);
        });
    }

    /** Contests of so many names each, all turned round. */
    private static int evenOf(int... names) {
        BallotPapers x = new BallotPapers();
        for (int many : names) {
            int contest = x.contest(1, 1);
            x.way(contest, 1);
            for (int name = 0; name < many; name++) {
                x.name(contest, 1);
            }
        }
        return x.evenVersions();
    }

    private static void evenVersions() {
        Edge.of(EVEN, "Finds the least number of versions that are even.", () -> {
            for (int names = 1; names <= 8; names++) {
                Due.is("turned round: " + names, evenOf(names), names);
            }
            Due.is("2 and 3", evenOf(2, 3), 6);
            Due.is("4 and 6", evenOf(4, 6), 12);
            Due.is("2, 4 and 8", evenOf(2, 4, 8), 8);
            Due.is("none and 5", evenOf(0, 5, 0), 5);
            Due.is("1 and 7", evenOf(1, 7, 1), 7);
            // Turned back: two names are even with two versions, more never.
            for (int names = 1; names <= 8; names++) {
                BallotPapers x = States.names(names);
                Due.is("as numbered: " + names, x.evenVersions(), names == 1 ? 1 : NOT_FOUND);
                x.way(0, 2);
                Due.is("turned back: " + names, x.evenVersions(), names <= 2 ? names : NOT_FOUND);
            }
        });
        Edge.of(EVEN, "Returns the number, 1 to 24", () -> {
            Due.is("no contest", evenOf(), 1);
            Due.is("no names", evenOf(0), 1);
            Due.is("one name each", evenOf(1, 1, 1, 1, 1, 1), 1);
            Due.is("3 and 7", evenOf(3, 7), 21);
            Due.is("3 and 8", evenOf(3, 8), 24);
            Due.is("6 and 8", evenOf(6, 8), 24);
            Due.is("1, 2, 3, 4, 6 and 8", evenOf(1, 2, 3, 4, 6, 8), 24);
            // So many versions are even, whatever versions and papers there are.
            BallotPapers x = States.full();
            x.way(0, 1);
            for (int contest = 1; contest < 5; contest++) {
                x.way(contest, 1);
            }
            Due.is("all names of six contests", x.evenVersions(), 8);
            x.set(5, 1);
            Due.is("one version", x.evenVersions(), 8);
        });
        Edge.of(EVEN, "NOT_FOUND if there is none", () -> {
            Due.is("4 and 7: 28", evenOf(4, 7), NOT_FOUND);
            Due.is("5 and 6: 30", evenOf(5, 6), NOT_FOUND);
            Due.is("5 and 8: 40", evenOf(5, 8), NOT_FOUND);
            Due.is("2, 3 and 7: 42", evenOf(2, 3, 7), NOT_FOUND);
            Due.is("7 and 8: 56", evenOf(7, 8), NOT_FOUND);
            // The last contest alone hinders it.
            BallotPapers x = new BallotPapers();
            for (int contest = 0; contest < 5; contest++) {
                Due.addContest(x, 1, 1, 1);
            }
            Due.is("ahead of it", x.evenVersions(), 1);
            Due.addContest(x, 1, 1, 1, 1);
            Due.is("behind it", x.evenVersions(), NOT_FOUND);
            Unchanged state = new Unchanged(States::full);
            state.by("evenVersions()", NOT_FOUND, y -> y.evenVersions());
        });
    }

    private static void widthDue(BallotPapers x, int width, int pages) {
        Due.is("bestWidth(0)", x.bestWidth(0), width);
        Due.is("bestWidth(1)", x.bestWidth(1), pages);
    }

    /** Columns of 16 lines, one on a page; by long names two lines each, by short ones one. */
    private static BallotPapers sixteenLines(int long0, int long1, int title) {
        BallotPapers x = new BallotPapers();
        x.set(0, 1);
        x.set(1, 16);
        Due.addContest(x, title, 1, long0, 1, 1, 1, 1, 1, 1, 1);
        Due.addContest(x, 1, 1, 1, 1, 1, 1, long1);
        return x;
    }

    private static void bestWidth() {
        Edge.of(WIDTH, "Finds the least width by which the paper of the version 0 has the fewest "
                + "pages.", () -> {
            // All fits exactly, 16 lines of 16: a name of 20 has one line from the width 23 on.
            int[] widths = {8, 8, 8, 8, 8, 9, 10, 11, 12, 13, 14, 15, 16, 17, 18, 19, 20, 21, 22,
                23};
            for (int length = 1; length <= 20; length++) {
                widthDue(sixteenLines(length, 1, 1), widths[length - 1], 1);
                widthDue(sixteenLines(1, length, 1), widths[length - 1], 1);
            }
            // Titles of one line: from their length on.
            for (int title = 1; title <= 20; title++) {
                widthDue(sixteenLines(1, 1, title), Math.max(8, title), 1);
            }
            // It is the version 0 alone, and not the width that is set.
            BallotPapers x = sixteenLines(20, 1, 1);
            x.set(5, 24);
            x.way(0, 2);
            x.set(2, 40);
            widthDue(x, 23, 1);
            x.set(2, 8);
            widthDue(x, 23, 1);
            Due.is("the width that is set stays", x.count(12), 8);
            // By the width 8 the version 1 has one column and the version 0, for folds, two.
            BallotPapers y = States.narrow(20, 20, 20, 1, 1);
            y.set(0, 1);
            y.set(4, 5);
            y.set(5, 2);
            y.way(0, 2);
            Due.is("pages of the version 0", y.paper(0, 0), 2);
            Due.is("pages of the version 1", y.paper(1, 0), 1);
            widthDue(y, 10, 1);
            eachFoldAndWidth();
        });
        Edge.of(WIDTH, "`what`: 0: the width; 1: the pages", () -> {
            int[] none = {8, 0};
            BallotPapers x = new BallotPapers();
            Edge.range("bestWidth(#) of nothing", 0, 1, x::bestWidth, v -> none[v]);
            int[] one = {8, 1};
            BallotPapers y = States.names(1);
            Edge.range("bestWidth(#)", 0, 1, y::bestWidth, v -> one[v]);
            int[] sixteen = {23, 1};
            BallotPapers z = sixteenLines(20, 20, 20);
            Edge.range("bestWidth(#)", 0, 1, z::bestWidth, v -> sixteen[v]);
            // The fewest may be more than one: six contests of nine lines and a free one each.
            BallotPapers full = States.full();
            full.set(0, 1);
            full.set(1, 16);
            int[] four = {23, 4};
            Edge.range("bestWidth(#) of all that there may be", 0, 1, full::bestWidth,
                    v -> four[v]);
        });
        Edge.of(WIDTH, "INVALID_ARGUMENT if what is out of range", () -> {
            Unchanged state = new Unchanged(States::counted);
            state.byEach("bestWidth(#)", INVALID, Edge.outside(0, 1), (x, v) -> x.bestWidth(v));
            Due.is("bestWidth(2) of nothing", new BallotPapers().bestWidth(2), INVALID);
        });
    }

    /** All widths one after another, by each fold. */
    private static void eachFoldAndWidth() {
        for (int fold = 4; fold <= 30; fold++) {
            BallotPapers x = States.narrow(20, 13, 20, 7, 18, 9, 20, 5);
            Due.addContest(x, 20, 1, 11, 20, 6);
            x.set(0, 1);
            x.set(4, fold);
            int best = 0;
            int fewest = Integer.MAX_VALUE;
            for (int width = 8; width <= 40; width++) {
                x.set(2, width);
                if (x.paper(0, 0) < fewest) {
                    fewest = x.paper(0, 0);
                    best = width;
                }
            }
            widthDue(x, best, fewest);
        }
    }

    private static void undo() {
        Edge.of(UNDO, "Restores the latest state of the history, which is removed from it.", () -> {
            BallotPapers x = new BallotPapers();
            x.set(2, 21);
            x.set(2, 22);
            x.set(2, 23);
            x.undo();
            Due.is("the latest state", x.count(12), 22);
            Due.is("states", x.count(4), 2);
            x.undo();
            Due.is("the one ahead of it", x.count(12), 21);
            Due.is("states", x.count(4), 1);
            // A change behind undo is undone alone; what was undone does not come back.
            x.set(2, 30);
            Due.is("states", x.count(4), 2);
            x.undo();
            Due.is("width", x.count(12), 21);
            x.undo();
            Due.is("width at first", x.count(12), 20);
            Due.is("states", x.count(4), 0);
        });
        Edge.of(UNDO, "Returns the number of states that are left in the history", () -> {
            for (int changes = 1; changes <= 9; changes++) {
                BallotPapers x = new BallotPapers();
                for (int i = 0; i < changes; i++) {
                    x.clear();
                }
                for (int left = Math.min(4, changes) - 1; left >= 0; left--) {
                    Due.is("undo() behind " + changes, x.undo(), left);
                }
                Due.is("undo() of none", x.undo(), IMPOSSIBLE);
            }
        });
        Edge.of(UNDO, "NOT_POSSIBLE if it is empty", () -> {
            Unchanged empty = new Unchanged(BallotPapers::new);
            empty.by("undo()", IMPOSSIBLE, x -> x.undo());
            Unchanged used = new Unchanged(() -> {
                BallotPapers x = States.counted();
                for (int i = 0; i < 4; i++) {
                    x.undo();
                }
                return x;
            });
            used.by("a fifth undo()", IMPOSSIBLE, x -> x.undo());
            used.by("a fifth and a sixth undo()", 2 * IMPOSSIBLE, x -> x.undo() + x.undo());
            // A text, and calls that are refused, are nothing that could be undone.
            BallotPapers x = new BallotPapers();
            x.type('0');
            x.clearText();
            x.contest(0, 1);
            Due.is("undo()", x.undo(), IMPOSSIBLE);
            x.contest(1, 1);
            Due.is("undo() of a change", x.undo(), 0);
            Due.is("undo()", x.undo(), IMPOSSIBLE);
        });
    }
}
