/** The sentences of "Lines, columns, pages". */
final class EdgesOfLines {
    private static final String SECTION = "Lines, columns, pages";
    private static final int INVALID = BallotPapers.INVALID_ARGUMENT;
    private static final int NOT_FOUND = BallotPapers.NOT_FOUND;

    private EdgesOfLines() {
    }

    static void all() {
        Edge.of(SECTION, "A paper has columns, each with lines that are numbered from 0 (as many "
                + "as setting 1).", EdgesOfLines::linesOfColumns);
        Edge.of(SECTION, "Columns are filled one behind the other; so many as setting 0 make a "
                + "page.", EdgesOfLines::columnsOfPages);
        Edge.of(SECTION, "The title of a contest takes (its length / setting 2, rounded up) lines",
                EdgesOfLines::linesOfTitles);
        Edge.of(SECTION, "for each language (setting 3)", EdgesOfLines::languages);
        Edge.of(SECTION, "a name takes (its length / (setting 2 less 3), rounded up) lines",
                EdgesOfLines::linesOfNames);
        Edge.of(SECTION, "its mark lies on the first of them", EdgesOfLines::marks);
        Edge.of(SECTION, "A line is on a fold if its number plus 1 is a multiple of setting 4",
                EdgesOfLines::folds);
        Edge.of(SECTION, "(if this is 0, none is)", EdgesOfLines::noFold);
        Edge.of(SECTION, "To lay something of some lines at a line of a column: a name goes one "
                + "line later, if its first line would be on a fold.", EdgesOfLines::oneLineLater);
        Edge.of(SECTION, "(What was left free stays free.)", EdgesOfLines::staysFree);
        Edge.of(SECTION, "Contests without names are left out.", EdgesOfLines::leftOut);
        Edge.of(SECTION, "Each other one, in their order, begins at the first line of the first "
                + "column, if it is the first one", EdgesOfLines::firstContest);
        Edge.of(SECTION, "otherwise one line is left free behind what was laid last.",
                EdgesOfLines::oneLineFree);
        Edge.of(SECTION, "If its title and then the first name of its order (perhaps one line "
                + "later) would not be all within the lines of the column, the contest begins at "
                + "line 0 of the next column.", EdgesOfLines::nextColumnForContests);
        Edge.of(SECTION, "Then its names follow, each at the line behind what was laid last "
                + "(perhaps one line later)", EdgesOfLines::namesFollow);
        Edge.of(SECTION, "one that would not be all within the column so is at line 0 of the next "
                + "column", EdgesOfLines::nextColumnForNames);
        Edge.of(SECTION, "(which is never on a fold)", EdgesOfLines::lineZero);
    }

    /** The column of all pages and the line of the mark of a name. */
    private static void due(BallotPapers x, int contest, int name, int column, int line) {
        dueIn(x, 0, contest, name, column, line);
    }

    private static void dueIn(BallotPapers x, int version, int contest, int name, int column,
            int line) {
        String who = "version " + version + ", contest " + contest + ", name " + name + ": ";
        int perPage = x.count(10);
        Due.is(who + "page", x.lies(version, contest, name, 0), column / perPage);
        Due.is(who + "column", x.lies(version, contest, name, 1), column % perPage);
        Due.is(who + "line", x.lies(version, contest, name, 2), line);
        Due.is(who + "the mark there", x.markAt(version, column / perPage, column % perPage, line,
                1), name);
    }

    /** Six contests with eight names of one line each, titles of some lines, and free lines. */
    private static BallotPapers manyNames(int lines, int titleLines) {
        BallotPapers x = new BallotPapers();
        for (int contest = 0; contest < 6; contest++) {
            Due.addContest(x, 20, 1, 1, 1, 1, 1, 1, 1, 1, 1);
        }
        x.set(1, lines);
        x.set(3, titleLines);
        return x;
    }

    private static void linesOfColumns() {
        // The least: titles at 0 and 10, the names 0 to 4 of the contest 1 at 11 to 15.
        BallotPapers least = manyNames(16, 1);
        due(least, 1, 4, 0, 15);
        due(least, 1, 5, 1, 0);
        Due.is("line 16", least.markAt(0, 0, 0, 16, 1), INVALID);
        BallotPapers more = manyNames(17, 1);
        due(more, 1, 5, 0, 16);
        due(more, 1, 6, 1, 0);
        Due.is("line 17", more.markAt(0, 0, 0, 17, 1), INVALID);
        // As at first: the contest 2 has its title at 20, its names 0 to 2 at 21 to 23.
        BallotPapers first = manyNames(24, 1);
        due(first, 2, 2, 0, 23);
        due(first, 2, 3, 1, 0);
        Due.is("line 24", first.markAt(0, 0, 0, 24, 1), INVALID);
        // The most: the contest 5 has its title at 55 and 56, its names 0 to 2 at 57 to 59.
        BallotPapers most = manyNames(60, 2);
        due(most, 5, 2, 0, 59);
        due(most, 5, 3, 1, 0);
        Due.is("line 60", most.markAt(0, 0, 0, 60, 1), INVALID);
        Due.is("line -1", most.markAt(0, 0, 0, -1, 1), INVALID);
    }

    private static void columnsOfPages() {
        int[] columns = {0, 0, 0, 1, 1, 1, 1, 2, 2, 2, 3, 3, 3, 3, 4, 4};
        int[] lines = {1, 5, 9, 0, 4, 8, 12, 0, 6, 10, 0, 4, 8, 12, 0, 4};
        int[] pages = {5, 3, 2, 2};
        for (int perPage = 1; perPage <= 4; perPage++) {
            BallotPapers x = States.narrow(20, 20, 20, 20, 20, 20, 20, 20);
            Due.addContest(x, 8, 1, 20, 20, 20, 20, 20, 20, 20, 20);
            x.set(0, perPage);
            for (int name = 0; name < 16; name++) {
                due(x, name / 8, name % 8, columns[name], lines[name]);
            }
            Due.is("pages of " + perPage, x.paper(0, 0), pages[perPage - 1]);
            Due.is("columns", x.paper(0, 1), 5);
        }
        // A page that is full to its last column, and one column more.
        BallotPapers x = States.narrow(20, 20, 20, 20, 20, 20, 20);
        Due.is("a page of two columns", x.paper(0, 0), 1);
        due(x, 0, 6, 1, 12);
        x.name(0, 1);
        Due.is("a page more", x.paper(0, 0), 2);
        Due.is("page of the name", x.lies(0, 0, 7, 0), 1);
        Due.is("column of the name", x.lies(0, 0, 7, 1), 0);
        Due.is("line of the name", x.lies(0, 0, 7, 2), 0);
    }

    /** The lines of a title are those ahead of the first mark. */
    private static void titleDue(int length, int width, int languages, int lines) {
        BallotPapers x = Due.withNames(length, 1);
        x.set(2, width);
        x.set(3, languages);
        Due.is("lines of a title of " + length + " by the width " + width, x.lies(0, 0, 0, 2),
                lines);
        Due.is("all lines", x.paper(0, 2), lines + 1);
    }

    private static void linesOfTitles() {
        int[][] due = {{1, 8, 1}, {7, 8, 1}, {8, 8, 1}, {9, 8, 2}, {15, 8, 2}, {16, 8, 2},
            {17, 8, 3}, {20, 8, 3}, {9, 9, 1}, {10, 9, 2}, {18, 9, 2}, {19, 9, 3}, {10, 10, 1},
            {11, 10, 2}, {20, 10, 2}, {18, 19, 1}, {19, 19, 1}, {20, 19, 2}, {20, 20, 1},
            {20, 21, 1}, {20, 40, 1}, {1, 40, 1}};
        for (int[] d : due) {
            titleDue(d[0], d[1], 1, d[2]);
        }
    }

    private static void languages() {
        titleDue(8, 8, 1, 1);
        titleDue(8, 8, 2, 2);
        titleDue(8, 8, 3, 3);
        // Rounded up for each language: 10 by 8 are two lines, three times; not 30 by 8, or 4.
        titleDue(10, 8, 1, 2);
        titleDue(10, 8, 2, 4);
        titleDue(10, 8, 3, 6);
        titleDue(20, 8, 3, 9);
        titleDue(1, 40, 3, 3);
    }

    private static void linesOfNames() {
        int[][] due = {{1, 8, 1}, {4, 8, 1}, {5, 8, 1}, {6, 8, 2}, {10, 8, 2}, {11, 8, 3},
            {15, 8, 3}, {16, 8, 4}, {20, 8, 4}, {6, 9, 1}, {7, 9, 2}, {12, 9, 2}, {13, 9, 3},
            {18, 9, 3}, {19, 9, 4}, {17, 20, 1}, {18, 20, 2}, {20, 20, 2}, {19, 22, 1},
            {20, 22, 2}, {20, 23, 1}, {20, 24, 1}, {20, 40, 1}, {1, 40, 1}};
        for (int[] d : due) {
            BallotPapers x = Due.withNames(1, d[0]);
            x.set(2, d[1]);
            x.set(3, 3);
            Due.is("lines of a name of " + d[0] + " by the width " + d[1], x.lies(0, 0, 0, 4),
                    d[2]);
            Due.is("all lines", x.paper(0, 2), 3 + d[2]);
        }
    }

    private static void marks() {
        BallotPapers x = States.narrow(20, 1, 6);
        due(x, 0, 0, 0, 1);
        due(x, 0, 1, 0, 5);
        due(x, 0, 2, 0, 6);
        int[] others = {0, 2, 3, 4, 7, 8, 15};
        for (int line : others) {
            Due.is("line " + line, x.markAt(0, 0, 0, line, 1), NOT_FOUND);
            Due.is("line " + line, x.markAt(0, 0, 0, line, 0), NOT_FOUND);
        }
    }

    private static void folds() {
        int[][] marks = {
            {4, 1, 2, 4, 5, 6, 8, 9, 10},
            {5, 1, 2, 3, 5, 6, 7, 8, 10},
            {6, 1, 2, 3, 4, 6, 7, 8, 9},
            {8, 1, 2, 3, 4, 5, 6, 8, 9},
            {9, 1, 2, 3, 4, 5, 6, 7, 9},
            {10, 1, 2, 3, 4, 5, 6, 7, 8},
            {30, 1, 2, 3, 4, 5, 6, 7, 8}};
        for (int[] m : marks) {
            BallotPapers x = States.names(8);
            x.set(4, m[0]);
            for (int name = 0; name < 8; name++) {
                due(x, 0, name, 0, m[name + 1]);
            }
        }
        // The greatest fold: lines 29 and 59. The contest 2 has its names from 24 on.
        BallotPapers x = manyNames(60, 2);
        x.set(4, 30);
        due(x, 2, 4, 0, 28);
        due(x, 2, 5, 0, 30);
        due(x, 2, 7, 0, 32);
        due(x, 5, 0, 0, 58);
        due(x, 5, 1, 1, 0);
        x.set(4, 29);
        due(x, 2, 3, 0, 27);
        due(x, 2, 4, 0, 29);
    }

    private static void noFold() {
        BallotPapers x = manyNames(60, 2);
        x.set(4, 30);
        Due.is("set(4, 0)", x.set(4, 0), 30);
        for (int contest = 0; contest < 5; contest++) {
            for (int name = 0; name < 8; name++) {
                due(x, contest, name, 0, 11 * contest + 2 + name);
            }
        }
        Due.is("names one line later", x.paper(0, 3), 0);
    }

    private static void oneLineLater() {
        // Names of two lines: a second line may be on a fold, here 7, 11 and so on.
        BallotPapers x = Due.withNames(20, 20, 20, 20, 20);
        x.set(4, 4);
        int[] marks = {1, 4, 6, 8};
        for (int name = 0; name < 4; name++) {
            due(x, 0, name, 0, marks[name]);
        }
        Due.is("names one line later", x.paper(0, 3), 1);

        // A title may be on a fold: it goes no line later, and its name follows at once.
        BallotPapers title = Due.withNames(20, 1);
        Due.addContest(title, 20, 1, 1);
        title.set(4, 4);
        due(title, 1, 0, 0, 4);
        Due.is("names one line later", title.paper(0, 3), 0);
        BallotPapers last = Due.withNames(20, 1);
        last.set(4, 4);
        last.set(3, 3);
        due(last, 0, 0, 0, 4);
        Due.is("names one line later", last.paper(0, 3), 1);
        last.set(2, 10);
        last.set(4, 6);
        due(last, 0, 0, 0, 6);
        Due.is("names one line later", last.paper(0, 3), 0);
    }

    private static void staysFree() {
        // A name of two lines is later at 4; the one-line name behind it is not put at 3.
        BallotPapers x = Due.withNames(20, 20, 20, 1, 1);
        x.set(4, 4);
        due(x, 0, 1, 0, 4);
        due(x, 0, 2, 0, 6);
        due(x, 0, 3, 0, 8);
        Due.is("line 3", x.markAt(0, 0, 0, 3, 1), NOT_FOUND);
        Due.is("line 7", x.markAt(0, 0, 0, 7, 1), NOT_FOUND);
        Due.is("lines that are taken", x.paper(0, 2), 1 + 2 + 2 + 1 + 1);
        // What a column has left when a long name goes to the next one stays free, too.
        BallotPapers y = States.narrow(20, 20, 20, 20, 1);
        due(y, 0, 3, 1, 0);
        due(y, 0, 4, 1, 4);
        // And what is left when a contest goes to the next column.
        BallotPapers z = States.narrow(20, 20, 20);
        Due.addContest(z, 9, 1, 5);
        Due.addContest(z, 1, 1, 1);
        due(z, 1, 0, 1, 2);
        due(z, 2, 0, 1, 5);
    }

    private static void leftOut() {
        BallotPapers none = new BallotPapers();
        for (int contest = 0; contest < 6; contest++) {
            none.contest(20, 1);
        }
        for (int what = 0; what <= 4; what++) {
            Due.is("paper(0, " + what + ")", none.paper(0, what), 0);
        }
        for (int line = 0; line < 24; line++) {
            Due.is("a mark of nobody", none.markAt(0, 0, 0, line, 0), NOT_FOUND);
        }
        // Ahead of the others, between them, behind them.
        BallotPapers x = new BallotPapers();
        Due.addContest(x, 20, 1);
        Due.addContest(x, 20, 1, 1);
        Due.addContest(x, 20, 1);
        Due.addContest(x, 20, 1);
        Due.addContest(x, 20, 1, 1);
        Due.addContest(x, 20, 1);
        due(x, 1, 0, 0, 1);
        due(x, 4, 0, 0, 4);
        Due.is("lines that are taken", x.paper(0, 2), 4);
        Due.is("the contest of the mark", x.markAt(0, 0, 0, 4, 0), 4);
        x.name(2, 1);
        due(x, 4, 0, 0, 7);
    }

    private static void firstContest() {
        for (int languages = 1; languages <= 3; languages++) {
            BallotPapers x = Due.withNames(20, 1);
            x.set(3, languages);
            due(x, 0, 0, 0, languages);
        }
        // The greatest title and the greatest name, and a fold, are within the lowest column.
        BallotPapers x = new BallotPapers();
        x.contest(20, 1);
        Due.addContest(x, 20, 1, 20);
        x.set(1, 16);
        x.set(2, 8);
        x.set(3, 3);
        due(x, 1, 0, 0, 9);
        x.set(4, 10);
        due(x, 1, 0, 0, 10);
        Due.is("columns", x.paper(0, 1), 1);
        // In their order: it is not the length or the way that tells which one is first.
        BallotPapers y = new BallotPapers();
        Due.addContest(y, 20, 1, 20);
        Due.addContest(y, 1, 3, 1);
        y.way(0, 2);
        due(y, 0, 0, 0, 1);
        due(y, 1, 0, 0, 5);
    }

    private static void oneLineFree() {
        BallotPapers x = new BallotPapers();
        for (int contest = 0; contest < 6; contest++) {
            Due.addContest(x, 20, 1, 1);
            due(x, contest, 0, 0, 3 * contest + 1);
        }
        Due.is("columns", x.paper(0, 1), 1);
        // One line whatever was laid last: here a name of two lines, later for a fold.
        BallotPapers y = Due.withNames(20, 1, 1, 20);
        Due.addContest(y, 20, 1, 1);
        y.set(4, 4);
        due(y, 0, 2, 0, 4);
        // Line 6 is free, the title at 7, the name at 8.
        due(y, 1, 0, 0, 8);
        // At the begin of a column no line is left free.
        BallotPapers z = States.narrow(20, 20, 20, 15);
        Due.addContest(z, 8, 1, 5);
        due(z, 1, 0, 1, 1);
    }

    private static void nextColumnForContests() {
        // Behind three names of four lines the next title is at 14, its first name at 15.
        int[] columns = {0, 1, 1, 1, 1};
        int[] lines = {15, 1, 1, 1, 1};
        int[] lengths = {5, 6, 10, 15, 20};
        for (int i = 0; i < lengths.length; i++) {
            BallotPapers x = States.narrow(20, 20, 20);
            Due.addContest(x, 8, 1, lengths[i]);
            due(x, 1, 0, columns[i], lines[i]);
            Due.is("columns", x.paper(0, 1), columns[i] + 1);
            Due.is("columns that begin with a name", x.paper(0, 4), 0);
        }
        // A title that takes the last line leaves no room for a name; nor one of two languages.
        BallotPapers title = States.narrow(20, 20, 20);
        Due.addContest(title, 9, 1, 5);
        due(title, 1, 0, 1, 2);
        BallotPapers languages = States.narrow(20, 20, 15);
        Due.addContest(languages, 8, 1, 5);
        due(languages, 1, 0, 0, 14);
        languages.set(3, 2);
        // The titles take two lines now: 0 and 1, the names to 12, the title 14 and 15.
        due(languages, 1, 0, 1, 2);
        // The title, or the free line ahead of it, would be behind the last line.
        int[] ends = {5, 10, 15};
        for (int last : ends) {
            BallotPapers x = States.narrow(20, 20, 20, last);
            Due.addContest(x, 8, 1, 5);
            due(x, 1, 0, 1, 1);
        }
        nextColumnForFoldsAndOrders();
    }

    private static void nextColumnForFoldsAndOrders() {
        // Line 15 is on a fold: one line later is no line of the column.
        BallotPapers fold = States.narrow(20, 20, 20);
        Due.addContest(fold, 8, 1, 5);
        fold.set(4, 16);
        due(fold, 1, 0, 1, 1);
        Due.is("names one line later", fold.paper(0, 3), 0);
        // Line 14 is on a fold: the title goes there, and the name to 15 as without it.
        fold.set(4, 15);
        due(fold, 1, 0, 0, 15);
        // Line 13 is on a fold: one line later, 14, is the last one for two lines, 15 is not.
        BallotPapers later = States.narrow(20, 20, 10);
        Due.addContest(later, 8, 1, 10);
        later.set(4, 14);
        due(later, 1, 0, 0, 14);
        Due.is("names one line later", later.paper(0, 3), 1);
        BallotPapers tooLong = States.narrow(20, 20, 10);
        Due.addContest(tooLong, 8, 1, 11);
        due(tooLong, 1, 0, 0, 13);
        tooLong.set(4, 14);
        due(tooLong, 1, 0, 1, 1);
        Due.is("names one line later", tooLong.paper(0, 3), 0);
        // In the new column a fold counts again.
        BallotPapers again = States.narrow(20, 20, 20);
        Due.addContest(again, 20, 1, 5);
        again.set(4, 4);
        due(again, 1, 0, 1, 4);
        // The first name of the order decides: version 0 begins with two lines, 1 with one.
        BallotPapers turned = States.narrow(20, 20, 20);
        Due.addContest(turned, 8, 1, 6, 5);
        turned.set(5, 2);
        for (int way = 1; way <= 2; way++) {
            turned.way(1, way);
            dueIn(turned, 0, 1, 0, 1, 1);
            dueIn(turned, 0, 1, 1, 1, 3);
            dueIn(turned, 1, 1, 1, 0, 15);
            dueIn(turned, 1, 1, 0, 1, 0);
        }
        // The next column may be one of the next page.
        BallotPapers page = States.narrow(20, 20, 20);
        Due.addContest(page, 8, 1, 6);
        page.set(0, 1);
        Due.is("page", page.lies(0, 1, 0, 0), 1);
        Due.is("column", page.lies(0, 1, 0, 1), 0);
        Due.is("line", page.lies(0, 1, 0, 2), 1);
    }

    private static void namesFollow() {
        BallotPapers x = States.narrow(5, 6, 11, 16);
        int[] marks = {1, 2, 4, 7};
        for (int name = 0; name < 4; name++) {
            due(x, 0, name, 0, marks[name]);
        }
        // With folds at 3, 7, 11: 1; 2 and 3; 4 to 6; 7 would be on a fold: 8 to 11.
        x.set(4, 4);
        int[] folded = {1, 2, 4, 8};
        for (int name = 0; name < 4; name++) {
            due(x, 0, name, 0, folded[name]);
        }
        // In the order of the version: 3 at 1 to 4, 2 at 5 to 7, 1 at 8 and 9, 0 at 10.
        x.set(5, 2);
        x.way(0, 2);
        int[] back = {10, 8, 5, 1};
        for (int name = 0; name < 4; name++) {
            dueIn(x, 1, 0, name, 0, back[name]);
        }
    }

    private static void nextColumnForNames() {
        // The title and four names of 4, 4, 4 and 3 lines fill 16 lines; one line more does not.
        BallotPapers full = States.narrow(20, 20, 20, 15);
        due(full, 0, 3, 0, 13);
        Due.is("columns", full.paper(0, 1), 1);
        BallotPapers more = States.narrow(20, 20, 20, 16);
        due(more, 0, 3, 1, 0);
        Due.is("columns", more.paper(0, 1), 2);
        Due.is("columns that begin with a name", more.paper(0, 4), 1);
        // Behind a full column even one line is too much.
        full.name(0, 1);
        due(full, 0, 4, 1, 0);
        // A whole column of names: four of four lines, and the fifth is in the next one.
        BallotPapers names = States.narrow(20, 20, 20, 20, 20, 20, 20, 20);
        due(names, 0, 6, 1, 12);
        due(names, 0, 7, 2, 0);
        // One line later it would not be all within: lines 12 to 15 would, 13 to 16 would not.
        BallotPapers fold = States.narrow(20, 20, 15, 20);
        due(fold, 0, 3, 0, 12);
        fold.set(4, 13);
        due(fold, 0, 3, 1, 0);
        Due.is("names one line later", fold.paper(0, 3), 0);
        // One line later it is just within.
        BallotPapers within = States.narrow(20, 20, 15, 15);
        within.set(4, 13);
        due(within, 0, 3, 0, 13);
        Due.is("names one line later", within.paper(0, 3), 1);
        // The last line is on a fold.
        BallotPapers last = States.narrow(20, 20, 20, 10, 5);
        due(last, 0, 4, 0, 15);
        last.set(4, 16);
        due(last, 0, 4, 1, 0);
        Due.is("names one line later", last.paper(0, 3), 0);
    }

    private static void lineZero() {
        BallotPapers x = States.narrow(20, 20, 20, 20, 1);
        for (int fold = 4; fold <= 30; fold++) {
            x.set(4, fold);
            int marks = 0;
            for (int name = 0; name < 5; name++) {
                marks += x.lies(0, 0, name, 2) == 0 ? 1 : 0;
            }
            Due.is("marks at line 0 by the fold " + fold, marks, 1);
            Due.is("the column of the last name", x.lies(0, 0, 4, 1), 1);
        }
    }
}
