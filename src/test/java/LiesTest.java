/** Promise 13: lies. */
public final class LiesTest {
    public static void main(String[] args) {
        linesOfNames();
        columnsAndPages();
        contestsBehindOneAnother();
        contestsThatGoToTheNextColumn();
        folds();
        languages();
        ordersOfVersions();
        wrongArguments();
        Due.end();
    }

    /** Page, column on the page, and line of a mark. */
    private static void due(BallotPapers x, int contest, int name, int page, int column, int line) {
        dueIn(x, 0, contest, name, page, column, line);
    }

    private static void dueIn(BallotPapers x, int version, int contest, int name,
            int page, int column, int line) {
        String who = "version " + version + ", contest " + contest + ", name " + name + ": ";
        Due.is(who + "page", x.lies(version, contest, name, 0), page);
        Due.is(who + "column", x.lies(version, contest, name, 1), column);
        Due.is(who + "line", x.lies(version, contest, name, 2), line);
    }

    /** A page of 16 lines and the least width: names of 20 take 4 lines, titles of 8 take 1. */
    private static BallotPapers narrow(int... lengths) {
        BallotPapers x = new BallotPapers();
        x.set(1, 16);
        x.set(2, 8);
        Due.addContest(x, 8, 1, lengths);
        return x;
    }

    private static void linesOfNames() {
        BallotPapers x = Due.withNames(20, 17, 18, 1, 20);
        int[] lines = {1, 2, 1, 2};
        int[] marks = {1, 2, 4, 5};
        for (int name = 0; name < 4; name++) {
            Due.is("lines of " + name, x.lies(0, 0, name, 4), lines[name]);
            due(x, 0, name, 0, 0, marks[name]);
        }
        x.set(2, 19);
        Due.is("title of two lines", x.lies(0, 0, 0, 2), 2);
        Due.is("17 by 16", x.lies(0, 0, 0, 4), 2);
        x.set(2, 8);
        Due.is("title of three lines", x.lies(0, 0, 0, 2), 3);
        Due.is("17 by 5", x.lies(0, 0, 0, 4), 4);
        Due.is("20 by 5", x.lies(0, 0, 3, 4), 4);
        Due.is("1 by 5", x.lies(0, 0, 2, 4), 1);
    }

    private static void columnsAndPages() {
        BallotPapers x = narrow(20, 20, 20, 20, 20, 20, 20, 20);
        Due.addContest(x, 8, 1, 5);
        int[] columns = {0, 0, 0, 1, 1, 1, 1, 2};
        int[] lines = {1, 5, 9, 0, 4, 8, 12, 0};
        for (int perPage = 1; perPage <= 4; perPage++) {
            x.set(0, perPage);
            for (int name = 0; name < 8; name++) {
                due(x, 0, name, columns[name] / perPage, columns[name] % perPage, lines[name]);
            }
            due(x, 1, 0, 2 / perPage, 2 % perPage, 6);
        }
    }

    private static void contestsBehindOneAnother() {
        BallotPapers x = new BallotPapers();
        Due.addContest(x, 20, 1);
        Due.addContest(x, 20, 1, 5, 5);
        Due.addContest(x, 20, 1);
        Due.addContest(x, 20, 1, 5);
        due(x, 1, 0, 0, 0, 1);
        due(x, 1, 1, 0, 0, 2);
        due(x, 3, 0, 0, 0, 5);
        x.name(0, 20);
        due(x, 0, 0, 0, 0, 1);
        due(x, 1, 0, 0, 0, 5);
        due(x, 3, 0, 0, 0, 9);
    }

    private static void contestsThatGoToTheNextColumn() {
        // The first contest ends behind line 12: the next title is at 14, its name at 15.
        BallotPapers x = narrow(20, 20, 20);
        Due.addContest(x, 8, 1, 5, 5);
        due(x, 1, 0, 0, 0, 15);
        due(x, 1, 1, 0, 1, 0);

        BallotPapers longer = narrow(20, 20, 20);
        Due.addContest(longer, 8, 1, 6, 5);
        due(longer, 1, 0, 0, 1, 1);
        due(longer, 1, 1, 0, 1, 3);

        BallotPapers title = narrow(20, 20, 20);
        Due.addContest(title, 9, 1, 5);
        due(title, 1, 0, 0, 1, 2);

        // The first name of the order decides, not the name 0.
        BallotPapers turned = narrow(20, 20, 20);
        Due.addContest(turned, 8, 1, 6, 5);
        turned.set(5, 2);
        turned.way(1, 2);
        dueIn(turned, 0, 1, 0, 0, 1, 1);
        dueIn(turned, 1, 1, 1, 0, 0, 15);
        dueIn(turned, 1, 1, 0, 0, 1, 0);

        // The first contest ends with the column: the free line is not in it any more.
        BallotPapers full = narrow(20, 20, 20, 15);
        due(full, 0, 3, 0, 0, 13);
        Due.addContest(full, 8, 1, 5);
        due(full, 1, 0, 0, 1, 1);
    }

    private static void folds() {
        BallotPapers x = Due.withNames(20, 5, 5, 5, 5, 5, 5, 5, 5);
        x.set(4, 4);
        int[] marks = {1, 2, 4, 5, 6, 8, 9, 10};
        for (int name = 0; name < 8; name++) {
            due(x, 0, name, 0, 0, marks[name]);
        }
        x.set(4, 30);
        due(x, 0, 7, 0, 0, 8);
        x.set(4, 9);
        due(x, 0, 7, 0, 0, 9);

        // A second line may be on a fold, and so may a title.
        BallotPapers lines = Due.withNames(20, 18, 18, 18);
        lines.set(4, 5);
        due(lines, 0, 1, 0, 0, 3);
        due(lines, 0, 2, 0, 0, 5);
        Due.addContest(lines, 20, 1, 5);
        due(lines, 1, 0, 0, 0, 10);

        // Line 15 is on a fold; a name for it goes to the next column, with its title if first.
        BallotPapers first = narrow(20, 20, 20);
        Due.addContest(first, 8, 1, 5);
        first.set(4, 16);
        due(first, 1, 0, 0, 1, 1);
        BallotPapers later = narrow(20, 20, 5);
        Due.addContest(later, 8, 1, 5, 5, 5, 5);
        due(later, 1, 2, 0, 0, 14);
        due(later, 1, 3, 0, 0, 15);
        later.set(4, 16);
        due(later, 1, 2, 0, 0, 14);
        due(later, 1, 3, 0, 1, 0);

        // A title of three lines: its first name is on the fold of a new column, too.
        BallotPapers again = narrow(20, 20, 20);
        Due.addContest(again, 20, 1, 5);
        again.set(4, 4);
        due(again, 1, 0, 0, 1, 4);
    }

    private static void languages() {
        BallotPapers x = narrow(5);
        int contest = Due.addContest(x, 9, 1, 5);
        x.set(3, 3);
        due(x, 0, 0, 0, 0, 3);
        due(x, contest, 0, 0, 0, 11);
        x.set(3, 2);
        due(x, 0, 0, 0, 0, 2);
        due(x, contest, 0, 0, 0, 8);
    }

    private static void ordersOfVersions() {
        BallotPapers x = Due.withNames(20, 18, 5, 5);
        x.set(5, 3);
        x.way(0, 1);
        int[][] lines = {{1, 3, 4}, {3, 1, 2}, {2, 4, 1}};
        int[][] places = {{0, 1, 2}, {2, 0, 1}, {1, 2, 0}};
        for (int version = 0; version < 3; version++) {
            for (int name = 0; name < 3; name++) {
                dueIn(x, version, 0, name, 0, 0, lines[version][name]);
                Due.is("place", x.lies(version, 0, name, 3), places[version][name]);
            }
        }
        x.way(0, 2);
        Due.is("place in version 1", x.lies(1, 0, 0, 3), 2);
        Due.is("place in version 2", x.lies(2, 0, 0, 3), 0);
    }

    private static void wrongArguments() {
        BallotPapers x = Due.withNames(20, 18, 5);
        Due.addContest(x, 20, 1);
        int[][] wrong = {{-1, 0, 0, 0}, {1, 0, 0, 0}, {0, -1, 0, 0}, {0, 2, 0, 0}, {0, 1, 0, 0},
            {0, 0, -1, 0}, {0, 0, 2, 0}, {0, 0, 0, -1}, {0, 0, 0, 5},
            {Integer.MAX_VALUE, 0, 0, 0}, {0, Integer.MIN_VALUE, 0, 0},
            {0, 0, Integer.MAX_VALUE, 0}, {0, 0, 0, Integer.MIN_VALUE}};
        for (int[] w : wrong) {
            Due.is("lies(" + w[0] + ", " + w[1] + ", " + w[2] + ", " + w[3] + ")",
                    x.lies(w[0], w[1], w[2], w[3]), BallotPapers.INVALID_ARGUMENT);
        }
    }
}
