/** The sentences of the promises 12 to 15: orders and places. */
final class EdgesOfPlaces {
    private static final String STANDS = "Promise 12: stands";
    private static final String LIES = "Promise 13: lies";
    private static final String MARK_AT = "Promise 14: markAt";
    private static final String PAPER = "Promise 15: paper";
    private static final String OUT_OF_RANGE = "INVALID_ARGUMENT if an argument is out of range";
    private static final int INVALID = BallotPapers.INVALID_ARGUMENT;
    private static final int NOT_FOUND = BallotPapers.NOT_FOUND;

    private EdgesOfPlaces() {
    }

    static void all() {
        stands();
        lies();
        markAt();
        paper();
    }

    /** A contest with two names in each of some versions. */
    private static BallotPapers inVersions(int versions) {
        BallotPapers x = States.names(2);
        x.way(0, 2);
        x.set(5, versions);
        return x;
    }

    private static BallotPapers inContests(int contests) {
        BallotPapers x = new BallotPapers();
        for (int contest = 0; contest < contests; contest++) {
            Due.addContest(x, 1, 1, 1, 1);
        }
        return x;
    }

    private static void stands() {
        Edge.of(STANDS, "`version`: number of the version", () -> {
            int[] all = {1, 2, 23, 24};
            for (int versions : all) {
                BallotPapers x = inVersions(versions);
                Edge.range("stands(#, 0, 0) of " + versions, 0, versions - 1,
                        v -> x.stands(v, 0, 0), v -> v % 2);
            }
        });
        Edge.of(STANDS, "`contest`: number of the contest", () -> {
            for (int contests = 1; contests <= 6; contests++) {
                BallotPapers x = inContests(contests);
                Edge.range("stands(0, #, 1) of " + contests, 0, contests - 1,
                        v -> x.stands(0, v, 1), v -> 1);
            }
            Due.is("stands(0, 0, 0) without contests", new BallotPapers().stands(0, 0, 0),
                    INVALID);
        });
        Edge.of(STANDS, "`place`: 0 or more", () -> {
            BallotPapers x = States.names(8);
            for (int place = 0; place < 8; place++) {
                Due.is("stands(0, 0, " + place + ")", x.stands(0, 0, place), place);
            }
            int[] more = {8, 9, 100, 1 << 16, 1 << 30, Integer.MAX_VALUE - 1, Integer.MAX_VALUE};
            for (int place : more) {
                Due.is("stands(0, 0, " + place + ")", x.stands(0, 0, place), NOT_FOUND);
            }
            int[] less = {-1, -8, -9, -(1 << 30), Integer.MIN_VALUE};
            for (int place : less) {
                Due.is("stands(0, 0, " + place + ")", x.stands(0, 0, place), INVALID);
            }
        });
        Edge.of(STANDS, "Returns the number of the name", () -> {
            BallotPapers x = States.full();
            for (int place = 0; place < 8; place++) {
                Due.is("stands(23, 0, " + place + ")", x.stands(23, 0, place), place);
                Due.is("stands(23, 5, " + place + ")", x.stands(23, 5, place), (7 + place) % 8);
                Due.is("stands(16, 5, " + place + ")", x.stands(16, 5, place), place);
            }
        });
        Edge.of(STANDS, "INVALID_ARGUMENT if an argument is out of range or place is negative",
                () -> {
            Unchanged state = new Unchanged(States::counted);
            state.byEach("stands(#, 0, 0)", INVALID, Edge.outside(0, 2),
                    (x, v) -> x.stands(v, 0, 0));
            state.byEach("stands(0, #, 0)", INVALID, Edge.outside(0, 2),
                    (x, v) -> x.stands(0, v, 0));
            int[] negative = {-1, -2, -3, -9, -100, Integer.MIN_VALUE};
            state.byEach("stands(1, 0, #)", INVALID, negative, (x, v) -> x.stands(1, 0, v));
            state.byEach("stands(0, 1, #)", INVALID, negative, (x, v) -> x.stands(0, 1, v));
            state.byEach("stands(#, 0, 99)", INVALID, Edge.outside(0, 2),
                    (x, v) -> x.stands(v, 0, 99));
            state.byEach("stands(0, #, 99)", INVALID, Edge.outside(0, 2),
                    (x, v) -> x.stands(0, v, 99));
        });
        Edge.of(STANDS, "NOT_FOUND if there are not so many names", () -> {
            for (int names = 0; names <= 8; names++) {
                BallotPapers x = States.names(names);
                x.set(5, 24);
                for (int way = 0; way <= 2; way++) {
                    x.way(0, way);
                    for (int version = 0; version < 24; version += 23) {
                        Due.is("place " + names, x.stands(version, 0, names), NOT_FOUND);
                        Due.is("place " + (names - 1),
                                x.stands(version, 0, names - 1) >= 0 ? 1 : 0, names > 0 ? 1 : 0);
                    }
                }
            }
            Unchanged state = new Unchanged(States::counted);
            state.by("stands(0, 0, 3)", NOT_FOUND, x -> x.stands(0, 0, 3));
            state.by("stands(2, 1, 0)", NOT_FOUND, x -> x.stands(2, 1, 0));
            state.by("stands(0, 0, most)", NOT_FOUND, x -> x.stands(0, 0, Integer.MAX_VALUE));
        });
    }

    private static void lies() {
        Edge.of(LIES, "`version`: number of the version", () -> {
            int[] all = {1, 2, 23, 24};
            for (int versions : all) {
                BallotPapers x = inVersions(versions);
                Edge.range("lies(#, 0, 0, 2) of " + versions, 0, versions - 1,
                        v -> x.lies(v, 0, 0, 2), v -> 1 + v % 2);
            }
        });
        Edge.of(LIES, "`contest`: number of the contest", () -> {
            for (int contests = 1; contests <= 6; contests++) {
                BallotPapers x = inContests(contests);
                Edge.range("lies(0, #, 1, 2) of " + contests, 0, contests - 1,
                        v -> x.lies(0, v, 1, 2), v -> 4 * v + 2);
            }
            Due.is("lies(0, 0, 0, 0) without contests", new BallotPapers().lies(0, 0, 0, 0),
                    INVALID);
        });
        Edge.of(LIES, "`name`: number of the name", () -> {
            for (int names = 0; names <= 8; names++) {
                BallotPapers x = States.names(names);
                Edge.range("lies(0, 0, #, 2) of " + names, 0, names - 1, v -> x.lies(0, 0, v, 2),
                        v -> v + 1);
            }
            // Behind the last name of a contest there is not the first one of the next.
            BallotPapers x = inContests(2);
            Due.is("lies(0, 0, 2, 0)", x.lies(0, 0, 2, 0), INVALID);
            Due.is("lies(0, 0, 8, 0)", x.lies(0, 0, 8, 0), INVALID);
            Due.is("lies(0, 1, -1, 0)", x.lies(0, 1, -1, 0), INVALID);
        });
        Edge.of(LIES, "`what`: 0: the page; 1: the column on the page; 2: the line of its mark; 3: "
                + "its place in the order; 4: its lines", EdgesOfPlaces::whatLies);
        Edge.of(LIES, OUT_OF_RANGE, () -> {
            Unchanged state = new Unchanged(States::counted);
            state.byEach("lies(#, 0, 0, 0)", INVALID, Edge.outside(0, 2),
                    (x, v) -> x.lies(v, 0, 0, 0));
            state.byEach("lies(0, #, 0, 0)", INVALID, Edge.outside(0, 2),
                    (x, v) -> x.lies(0, v, 0, 0));
            state.byEach("lies(0, 0, #, 0)", INVALID, Edge.outside(0, 2),
                    (x, v) -> x.lies(0, 0, v, 0));
            state.byEach("lies(0, 1, #, 0)", INVALID, new int[] {-1, 0, 1},
                    (x, v) -> x.lies(0, 1, v, 0));
            state.byEach("lies(0, 0, 0, #)", INVALID, Edge.outside(0, 4),
                    (x, v) -> x.lies(0, 0, 0, v));
        });
    }

    private static void whatLies() {
        // The last column of a page, and the first one of the next.
        BallotPapers x = States.narrow(20, 20, 20, 20, 20, 20, 20, 20);
        int[] last = {0, 1, 12, 6, 4};
        int[] next = {1, 0, 0, 7, 4};
        Edge.range("lies(0, 0, 6, #)", 0, 4, v -> x.lies(0, 0, 6, v), v -> last[v]);
        Edge.range("lies(0, 0, 7, #)", 0, 4, v -> x.lies(0, 0, 7, v), v -> next[v]);
        // The order of the version 23, way 1: the name 7 is the first one, then 0 and so on.
        x.set(5, 24);
        x.way(0, 1);
        int[] seventh = {0, 0, 1, 0, 4};
        int[] zeroth = {0, 0, 5, 1, 4};
        int[] sixth = {1, 0, 0, 7, 4};
        Edge.range("lies(23, 0, 7, #)", 0, 4, v -> x.lies(23, 0, 7, v), v -> seventh[v]);
        Edge.range("lies(23, 0, 0, #)", 0, 4, v -> x.lies(23, 0, 0, v), v -> zeroth[v]);
        Edge.range("lies(23, 0, 6, #)", 0, 4, v -> x.lies(23, 0, 6, v), v -> sixth[v]);
        x.way(0, 2);
        int[] back = {0, 0, 1, 0, 4};
        Edge.range("lies(1, 0, 7, #)", 0, 4, v -> x.lies(1, 0, 7, v), v -> back[v]);
        // The greatest paper: six contests, titles of nine lines, eight names of four lines each.
        BallotPapers full = States.full();
        full.set(0, 1);
        full.set(1, 16);
        full.set(2, 8);
        full.set(3, 3);
        // Each contest has three columns: the title and one name, four names, three names.
        int[] end = {17, 0, 8, 7, 4};
        Edge.range("lies(0, 5, 7, #)", 0, 4, v -> full.lies(0, 5, 7, v), v -> end[v]);
        Due.is("pages", full.paper(0, 0), 18);
        Due.is("columns", full.paper(0, 1), 18);
        Due.is("lines", full.paper(0, 2), 6 * (9 + 8 * 4));
        Due.is("columns that begin with a name", full.paper(0, 4), 12);
    }

    private static void markAt() {
        Edge.of(MARK_AT, "`version`: number of the version", () -> {
            int[] all = {1, 2, 23, 24};
            for (int versions : all) {
                BallotPapers x = inVersions(versions);
                Edge.range("markAt(#, 0, 0, 1, 1) of " + versions, 0, versions - 1,
                        v -> x.markAt(v, 0, 0, 1, 1), v -> v % 2);
            }
        });
        Edge.of(MARK_AT, "`page`: 0 or more", () -> {
            BallotPapers x = States.narrow(20, 20, 20, 20, 20, 20, 20, 20);
            Due.is("page 0", x.markAt(0, 0, 0, 1, 1), 0);
            Due.is("page 1", x.markAt(0, 1, 0, 0, 1), 7);
            int[] more = {2, 3, 100, 1 << 16, 1 << 29, 1 << 30, (1 << 30) + 1,
                Integer.MAX_VALUE / 2, Integer.MAX_VALUE - 1, Integer.MAX_VALUE};
            for (int perPage = 1; perPage <= 4; perPage++) {
                x.set(0, perPage);
                for (int page : more) {
                    int due = page == 2 && perPage == 1 ? 7 : NOT_FOUND;
                    Due.is("page " + page, x.markAt(0, page, 0, 0, 1), due);
                    Due.is("page " + page, x.markAt(0, page, perPage - 1, 1, 1), NOT_FOUND);
                }
                int[] less = {-1, -2, -(1 << 30), Integer.MIN_VALUE};
                for (int page : less) {
                    Due.is("page " + page, x.markAt(0, page, 0, 1, 1), INVALID);
                }
            }
        });
        Edge.of(MARK_AT, "`column`: 0 to setting 0 less 1", () -> {
            BallotPapers x = States.narrow(20, 20, 20, 20, 20, 20, 20, 20);
            Due.addContest(x, 8, 1, 20, 20, 20, 20, 20, 20, 20, 20);
            int[] first = {NOT_FOUND, 3, 7, 2, 6};
            for (int perPage = 1; perPage <= 4; perPage++) {
                x.set(0, perPage);
                Edge.range("markAt(0, 0, #, 0, 1) of " + perPage, 0, perPage - 1,
                        v -> x.markAt(0, 0, v, 0, 1), v -> first[v]);
            }
        });
        Edge.of(MARK_AT, "`line`: 0 to setting 1 less 1", () -> {
            int[] all = {16, 17, 24, 59, 60};
            for (int lines : all) {
                BallotPapers x = States.names(8);
                x.set(1, lines);
                Edge.range("markAt(0, 0, 0, #, 1) of " + lines, 0, lines - 1,
                        v -> x.markAt(0, 0, 0, v, 1), v -> v >= 1 && v <= 8 ? v - 1 : NOT_FOUND);
            }
        });
        Edge.of(MARK_AT, "`what`: 0: the contest; 1: the name", () -> {
            BallotPapers x = inContests(6);
            x.set(1, 60);
            for (int contest = 0; contest < 6; contest++) {
                int[] due = {contest, 1};
                int line = 4 * contest + 2;
                Edge.range("markAt(0, 0, 0, " + line + ", #)", 0, 1,
                        v -> x.markAt(0, 0, 0, line, v), v -> due[v]);
            }
        });
        Edge.of(MARK_AT, "INVALID_ARGUMENT if an argument is out of range or page is negative",
                () -> {
            Unchanged state = new Unchanged(States::counted);
            state.byEach("markAt(#, 0, 0, 3, 0)", INVALID, Edge.outside(0, 2),
                    (x, v) -> x.markAt(v, 0, 0, 3, 0));
            state.byEach("markAt(0, #, 0, 3, 0)", INVALID,
                    new int[] {-1, -2, -(1 << 30), -(1 << 31)},
                    (x, v) -> x.markAt(0, v, 0, 3, 0));
            state.byEach("markAt(0, 0, #, 3, 0)", INVALID, Edge.outside(0, 1),
                    (x, v) -> x.markAt(0, 0, v, 3, 0));
            state.byEach("markAt(0, 0, 0, #, 0)", INVALID, Edge.outside(0, 15),
                    (x, v) -> x.markAt(0, 0, 0, v, 0));
            state.byEach("markAt(0, 0, 0, 3, #)", INVALID, Edge.outside(0, 1),
                    (x, v) -> x.markAt(0, 0, 0, 3, v));
            state.byEach("markAt(0, 0, 0, 0, #)", INVALID, Edge.outside(0, 1),
                    (x, v) -> x.markAt(0, 0, 0, 0, v));
        });
        Edge.of(MARK_AT, "NOT_FOUND if no mark lies there", EdgesOfPlaces::noMark);
    }

    private static void noMark() {
        // A paper with nothing; a title; a second line; behind the last name; a free column.
        BallotPapers none = new BallotPapers();
        Due.is("nothing at all", none.markAt(0, 0, 0, 0, 0), NOT_FOUND);
        Due.is("nothing at all", none.markAt(0, 0, 1, 23, 1), NOT_FOUND);
        BallotPapers x = States.narrow(6);
        Due.is("a title", x.markAt(0, 0, 0, 0, 1), NOT_FOUND);
        Due.is("a mark", x.markAt(0, 0, 0, 1, 1), 0);
        Due.is("a second line", x.markAt(0, 0, 0, 2, 1), NOT_FOUND);
        Due.is("behind the last name", x.markAt(0, 0, 0, 3, 1), NOT_FOUND);
        Due.is("the last line", x.markAt(0, 0, 0, 15, 1), NOT_FOUND);
        Due.is("a free column", x.markAt(0, 0, 1, 1, 1), NOT_FOUND);
        Due.is("a page that there is not", x.markAt(0, 1, 0, 1, 1), NOT_FOUND);
        // A line that a fold left free, and one that was left at the end of a column.
        x.set(4, 4);
        x.name(0, 20);
        Due.is("a fold", x.markAt(0, 0, 0, 3, 1), NOT_FOUND);
        Due.is("behind the fold", x.markAt(0, 0, 0, 4, 1), 1);
        // The mark was there, and undo took it away.
        x.undo();
        Due.is("behind undo", x.markAt(0, 0, 0, 4, 1), NOT_FOUND);
        Unchanged state = new Unchanged(States::counted);
        state.by("markAt(0, 0, 0, 0, 0)", NOT_FOUND, y -> y.markAt(0, 0, 0, 0, 0));
        state.by("markAt(2, 9, 1, 15, 1)", NOT_FOUND, y -> y.markAt(2, 9, 1, 15, 1));
    }

    private static void paper() {
        Edge.of(PAPER, "`version`: number of the version", () -> {
            int[] all = {1, 2, 23, 24};
            for (int versions : all) {
                // In odd versions the long name is the first one, and goes with its title.
                BallotPapers x = States.narrow(20, 20, 20);
                Due.addContest(x, 8, 1, 5, 6);
                x.way(1, 2);
                x.set(5, versions);
                Edge.range("paper(#, 4) of " + versions, 0, versions - 1, v -> x.paper(v, 4),
                        v -> v % 2 == 0 ? 1 : 0);
            }
        });
        Edge.of(PAPER, "`what`: 0: its pages; 1: its columns on all pages; 2: lines that are taken "
                + "by titles and names;", () -> {
            int[] none = {0, 0, 0, 0, 0};
            BallotPapers x = States.narrow();
            Edge.range("paper(0, #) without names", 0, 4, v -> x.paper(0, v), v -> none[v]);
            int[][] due = {{1, 1, 5}, {1, 1, 9}, {1, 1, 13}, {1, 2, 17}, {1, 2, 21}, {1, 2, 25},
                {1, 2, 29}, {2, 3, 33}};
            for (int[] d : due) {
                x.name(0, 20);
                for (int what = 0; what < 3; what++) {
                    Due.is("paper(0, " + what + ")", x.paper(0, what), d[what]);
                }
            }
            int[] pages = {3, 2, 1, 1};
            for (int perPage = 1; perPage <= 4; perPage++) {
                x.set(0, perPage);
                Due.is("pages of " + perPage, x.paper(0, 0), pages[perPage - 1]);
                Due.is("columns", x.paper(0, 1), 3);
            }
        });
        Edge.of(PAPER, "3: names that lie one line later because of a fold (not those that went to "
                + "the next column);", EdgesOfPlaces::namesOneLineLater);
        Edge.of(PAPER, "4: columns that begin with a name", () -> {
            // The first column begins with a title; so does one that a contest went to.
            BallotPapers x = States.narrow(20, 20, 20);
            Due.is("none", x.paper(0, 4), 0);
            Due.addContest(x, 8, 1, 20, 20, 20, 20, 20, 20, 20);
            Due.is("columns", x.paper(0, 1), 3);
            Due.is("the last of three", x.paper(0, 4), 1);
            x.name(1, 5);
            Due.is("columns", x.paper(0, 1), 4);
            Due.is("the last two of four", x.paper(0, 4), 2);
            // The last name goes to a new column alone.
            BallotPapers last = States.narrow(20, 20, 20, 15, 1);
            Due.is("columns", last.paper(0, 1), 2);
            Due.is("one", last.paper(0, 4), 1);
        });
        Edge.of(PAPER, OUT_OF_RANGE, () -> {
            Unchanged state = new Unchanged(States::counted);
            state.byEach("paper(#, 0)", INVALID, Edge.outside(0, 2), (x, v) -> x.paper(v, 0));
            state.byEach("paper(0, #)", INVALID, Edge.outside(0, 4), (x, v) -> x.paper(0, v));
            Due.is("paper(0, 5) of nothing", new BallotPapers().paper(0, 5), INVALID);
        });
    }

    private static void namesOneLineLater() {
        int[] later = {2, 2, 1, 1, 1, 1, 0, 0};
        for (int fold = 4; fold <= 11; fold++) {
            BallotPapers x = States.names(8);
            x.set(4, fold);
            Due.is("by the fold " + fold, x.paper(0, 3), later[fold - 4]);
            x.set(4, 0);
            Due.is("without a fold", x.paper(0, 3), 0);
        }
        // One that would be on a fold goes to the next column: it is not one of them.
        BallotPapers gone = States.narrow(20, 20, 20, 10, 5);
        gone.set(4, 16);
        Due.is("the column of the last name", gone.lies(0, 0, 4, 1), 1);
        Due.is("one that went", gone.paper(0, 3), 0);
        BallotPapers tooLong = States.narrow(20, 20, 15, 20);
        tooLong.set(4, 13);
        Due.is("the column of the last name", tooLong.lies(0, 0, 3, 1), 1);
        Due.is("one that went", tooLong.paper(0, 3), 0);
        // One that is just within is.
        BallotPapers within = States.narrow(20, 20, 15, 15);
        within.set(4, 13);
        Due.is("the line of the last name", within.lies(0, 0, 3, 2), 13);
        Due.is("one that stays", within.paper(0, 3), 1);
        // A title on a fold, and a second line on a fold, are no names one line later.
        BallotPapers title = States.names(1);
        Due.addContest(title, 20, 1, 20);
        title.set(4, 4);
        Due.is("line of the name behind the title", title.lies(0, 1, 0, 2), 4);
        Due.is("none", title.paper(0, 3), 0);
    }
}
