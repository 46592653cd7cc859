/** The sentences of the promises 1 to 7: what makes a poll and changes it. */
final class EdgesOfMaking {
    private static final String NEW = "Promise 1: A new object";
    private static final String CONTEST = "Promise 2: contest";
    private static final String NAME = "Promise 3: name";
    private static final String WAY = "Promise 4: way";
    private static final String PAPERS = "Promise 5: papers";
    private static final String SET = "Promise 6: set";
    private static final String CLEAR = "Promise 7: clear";
    private static final String OUT_OF_RANGE = "INVALID_ARGUMENT if an argument is out of range";
    private static final int INVALID = BallotPapers.INVALID_ARGUMENT;
    private static final int IMPOSSIBLE = BallotPapers.NOT_POSSIBLE;
    private static final int LIMIT = BallotPapers.LIMIT_REACHED;
    private static final int NOT_FOUND = BallotPapers.NOT_FOUND;

    private static final int[] LEAST = {1, 16, 8, 1, 4, 1};
    private static final int[] MOST = {4, 60, 40, 3, 30, 24};
    private static final int[] AT_FIRST = {2, 24, 20, 1, 0, 1};

    private EdgesOfMaking() {
    }

    static void all() {
        Edge.of(NEW, "`BallotPapers()`: Creates a paper without contests.",
                EdgesOfMaking::nothingThereYet);
        contest();
        name();
        way();
        papers();
        set();
        Edge.of(CLEAR, "Clears all votes: no ballot was counted then.",
                EdgesOfMaking::clearsAllVotes);
        Edge.of(CLEAR, "Returns how many ballots were counted.", EdgesOfMaking::clearedBallots);
    }

    private static void nothingThereYet() {
        BallotPapers x = new BallotPapers();
        for (int what = 0; what <= 5; what++) {
            Due.is("count(" + what + ")", x.count(what), 0);
            Due.is("count(" + (10 + what) + ")", x.count(10 + what), AT_FIRST[what]);
        }
        Due.is("papersOf(0)", x.papersOf(0), 0);
        Due.is("papersOf(1)", x.papersOf(1), INVALID);
        for (int what = 0; what <= 6; what++) {
            Due.is("contestOf(0, " + what + ")", x.contestOf(0, what), INVALID);
        }
        Due.is("stands(0, 0, 0)", x.stands(0, 0, 0), INVALID);
        Due.is("spread(0)", x.spread(0), INVALID);
        Due.is("evenVersions()", x.evenVersions(), 1);
        for (int column = 0; column < 2; column++) {
            for (int line = 0; line < 24; line++) {
                Due.is("markAt", x.markAt(0, 0, column, line, 0), NOT_FOUND);
            }
        }
        Due.is("fault(0)", x.fault(0), 0);
        Due.is("fault(1)", x.fault(1), 1);
        Due.is("cast()", x.cast(), IMPOSSIBLE);
        Due.is("undo()", x.undo(), IMPOSSIBLE);
        Due.is("clearText()", x.clearText(), 0);
        Due.is("clear()", x.clear(), 0);
        // One object has nothing of another one.
        States.full();
        Due.is("contests of another object", new BallotPapers().count(0), 0);
        Due.is("papers of another object", new BallotPapers().count(2), 0);
        Due.is("text of another object", new BallotPapers().count(5), 0);
    }

    private static void contest() {
        Edge.of(CONTEST, "Adds a contest, without names, with the way 0.", () -> {
            BallotPapers x = new BallotPapers();
            for (int contest = 0; contest < 6; contest++) {
                x.contest(20 - contest, 1 + contest % 3);
                int[] due = {20 - contest, 1 + contest % 3, 0, 0, 0, 0, 0};
                for (int what = 0; what <= 6; what++) {
                    Due.is("contestOf(" + contest + ", " + what + ")",
                            x.contestOf(contest, what), due[what]);
                }
                Due.is("contests", x.count(0), contest + 1);
                Due.is("names of all", x.count(1), 0);
                // Those of the contest ahead of it are not its own.
                x.way(contest, 2);
            }
            // Nothing is left of one that was undone: names, way, votes.
            BallotPapers y = States.names(2);
            y.way(0, 1);
            y.undo();
            y.undo();
            y.undo();
            y.undo();
            Due.is("contest(3, 2)", y.contest(3, 2), 0);
            Due.is("names", y.contestOf(0, 3), 0);
            Due.is("way", y.contestOf(0, 2), 0);
            // It can be added behind a ballot, and then it is not even blank.
            BallotPapers z = States.counted();
            Due.is("contest(1, 1)", z.contest(1, 1), 3);
            Due.is("blank in it", z.contestOf(3, 6), 0);
        });
        Edge.of(CONTEST, "`title`: 1 to 20", () -> {
            Edge.range("contest(#, 3)", 1, 20, v -> new BallotPapers().contest(v, 3), v -> 0);
            BallotPapers x = new BallotPapers();
            Due.is("contest(1, 1)", x.contest(1, 1), 0);
            Due.is("contest(0, 1)", x.contest(0, 1), INVALID);
            Due.is("contest(20, 1)", x.contest(20, 1), 1);
            Due.is("contest(21, 1)", x.contest(21, 1), INVALID);
            Due.is("the title 1", x.contestOf(0, 0), 1);
            Due.is("the title 20", x.contestOf(1, 0), 20);
        });
        Edge.of(CONTEST, "`seats`: 1 to 3", () -> {
            Edge.range("contest(20, #)", 1, 3, v -> new BallotPapers().contest(20, v), v -> 0);
            BallotPapers x = new BallotPapers();
            Due.is("contest(1, 0)", x.contest(1, 0), INVALID);
            Due.is("contest(1, 1)", x.contest(1, 1), 0);
            Due.is("contest(1, 4)", x.contest(1, 4), INVALID);
            Due.is("contest(1, 3)", x.contest(1, 3), 1);
            Due.is("the seats 1", x.contestOf(0, 1), 1);
            Due.is("the seats 3", x.contestOf(1, 1), 3);
        });
        Edge.of(CONTEST, "Returns its number", () -> {
            BallotPapers x = new BallotPapers();
            for (int contest = 0; contest < 6; contest++) {
                Due.is("contest", x.contest(1, 1), contest);
            }
            x.undo();
            x.undo();
            Due.is("contest behind undo", x.contest(1, 1), 4);
        });
        Edge.of(CONTEST, OUT_OF_RANGE, () -> {
            Unchanged state = new Unchanged(States::counted);
            state.byEach("contest(#, 1)", INVALID, Edge.outside(1, 20), (x, v) -> x.contest(v, 1));
            state.byEach("contest(1, #)", INVALID, Edge.outside(1, 3), (x, v) -> x.contest(1, v));
            state.byEach("contest(#, #)", INVALID, Edge.outside(1, 20),
                    (x, v) -> x.contest(v, v));
        });
        Edge.of(CONTEST, "LIMIT_REACHED if there are 6", () -> {
            Unchanged state = new Unchanged(States::full);
            state.by("contest(1, 1)", LIMIT, x -> x.contest(1, 1));
            state.by("contest(20, 3)", LIMIT, x -> x.contest(20, 3));
            BallotPapers five = new BallotPapers();
            for (int contest = 0; contest < 5; contest++) {
                five.contest(1, 1);
            }
            Due.is("a sixth", five.contest(1, 1), 5);
            Due.is("a seventh", five.contest(1, 1), LIMIT);
        });
    }

    private static void name() {
        Edge.of(NAME, "Adds a name to a contest.", () -> {
            BallotPapers x = new BallotPapers();
            x.contest(1, 1);
            x.contest(1, 1);
            x.name(1, 7);
            Due.is("names of 0", x.contestOf(0, 3), 0);
            Due.is("names of 1", x.contestOf(1, 3), 1);
            Due.is("length", x.nameOf(1, 0, 0), 7);
            Due.is("votes", x.nameOf(1, 0, 1), 0);
            // The last name of a contest is not the first one of the next.
            for (int name = 0; name < 8; name++) {
                x.name(0, 20);
            }
            Due.is("length", x.nameOf(1, 0, 0), 7);
            Due.is("names of 1", x.contestOf(1, 3), 1);
        });
        Edge.of(NAME, "`contest`: number of the contest", () -> {
            for (int contests = 1; contests <= 6; contests++) {
                BallotPapers x = new BallotPapers();
                for (int contest = 0; contest < contests; contest++) {
                    x.contest(1, 1);
                }
                Edge.range("name(#, 1) of " + contests, 0, contests - 1, v -> x.name(v, 1),
                        v -> 0);
                Due.is("names of all", x.count(1), contests);
            }
            Due.is("name(0, 1) without contests", new BallotPapers().name(0, 1), INVALID);
        });
        Edge.of(NAME, "`length`: 1 to 20", () -> {
            Edge.range("name(0, #)", 1, 20, v -> States.names(7).name(0, v), v -> 7);
            BallotPapers x = States.names(0);
            Due.is("name(0, 0)", x.name(0, 0), INVALID);
            Due.is("name(0, 1)", x.name(0, 1), 0);
            Due.is("name(0, 21)", x.name(0, 21), INVALID);
            Due.is("name(0, 20)", x.name(0, 20), 1);
            Due.is("the length 1", x.nameOf(0, 0, 0), 1);
            Due.is("the length 20", x.nameOf(0, 1, 0), 20);
        });
        Edge.of(NAME, "Returns its number", () -> {
            BallotPapers x = States.names(0);
            x.contest(1, 1);
            for (int name = 0; name < 8; name++) {
                Due.is("name of 0", x.name(0, 1), name);
                Due.is("name of 1", x.name(1, 1), name);
            }
            x.undo();
            Due.is("name behind undo", x.name(1, 1), 7);
        });
        Edge.of(NAME, OUT_OF_RANGE, () -> {
            Unchanged state = new Unchanged(States::open);
            state.byEach("name(#, 1)", INVALID, Edge.outside(0, 2), (x, v) -> x.name(v, 1));
            state.byEach("name(0, #)", INVALID, Edge.outside(1, 20), (x, v) -> x.name(0, v));
            Unchanged full = new Unchanged(States::full);
            full.by("name(6, 1)", INVALID, x -> x.name(6, 1));
            full.by("name(5, 21)", INVALID, x -> x.name(5, 21));
            Unchanged counted = new Unchanged(States::counted);
            counted.by("name(3, 1)", INVALID, x -> x.name(3, 1));
            counted.by("name(1, 0)", INVALID, x -> x.name(1, 0));
        });
        Edge.of(NAME, "NOT_POSSIBLE if a ballot was counted", () -> {
            Unchanged state = new Unchanged(States::counted);
            state.by("name(0, 1)", IMPOSSIBLE, x -> x.name(0, 1));
            state.by("name(1, 1)", IMPOSSIBLE, x -> x.name(1, 1));
            ballotDecides("name(0, 1)", (x, v) -> x.name(0, 1));
        });
        Edge.of(NAME, "LIMIT_REACHED if the contest has 8", () -> {
            Unchanged state = new Unchanged(States::full);
            state.byEach("name(#, 1)", LIMIT, new int[] {0, 1, 2, 3, 4, 5},
                    (x, v) -> x.name(v, 1));
            BallotPapers x = States.names(7);
            x.contest(1, 1);
            Due.is("an eighth", x.name(0, 1), 7);
            Due.is("a ninth", x.name(0, 1), LIMIT);
            Due.is("the first of another contest", x.name(1, 1), 0);
            x.undo();
            x.undo();
            Due.is("an eighth again", x.name(0, 1), 7);
        });
    }

    /** Possible ahead of a ballot, not behind the first one, and again behind clear and undo. */
    private static void ballotDecides(String call, Unchanged.Call called) {
        BallotPapers x = States.names(1);
        Due.written(x, "0:");
        Due.is("ahead of a ballot: " + call, called.with(x, 0) >= 0 ? 1 : 0, 1);
        x.cast();
        Due.is("behind one ballot: " + call, called.with(x, 0), IMPOSSIBLE);
        x.undo();
        Due.is("behind its undo: " + call, called.with(x, 0) >= 0 ? 1 : 0, 1);
        x.cast();
        x.cast();
        Due.is("behind two ballots: " + call, called.with(x, 0), IMPOSSIBLE);
        x.undo();
        Due.is("behind the undo of one: " + call, called.with(x, 0), IMPOSSIBLE);
        x.clear();
        Due.is("behind clear: " + call, called.with(x, 0) >= 0 ? 1 : 0, 1);
        x.undo();
        x.undo();
        Due.is("behind the undo of clear: " + call, called.with(x, 0), IMPOSSIBLE);
        // A ballot that is refused is none.
        BallotPapers y = States.names(1);
        y.cast();
        Due.is("behind a ballot with a fault: " + call, called.with(y, 0) >= 0 ? 1 : 0, 1);
    }

    private static void way() {
        Edge.of(WAY, "Sets the way by which the names of a contest are turned.", () -> {
            BallotPapers x = States.names(3);
            Due.addContest(x, 1, 1, 1, 1, 1);
            x.set(5, 2);
            int[] first = {0, 1, 2};
            for (int way = 0; way <= 2; way++) {
                x.way(1, way);
                Due.is("the way", x.contestOf(1, 2), way);
                Due.is("stands(1, 1, 0)", x.stands(1, 1, 0), first[way]);
                Due.is("the way of the other one", x.contestOf(0, 2), 0);
                Due.is("stands(1, 0, 0)", x.stands(1, 0, 0), 0);
            }
            // A contest without names has a way, too.
            BallotPapers none = States.names(0);
            Due.is("way(0, 2)", none.way(0, 2), 0);
            Due.is("the way", none.contestOf(0, 2), 2);
        });
        Edge.of(WAY, "`contest`: number of the contest", () -> {
            for (int contests = 1; contests <= 6; contests++) {
                BallotPapers x = new BallotPapers();
                for (int contest = 0; contest < contests; contest++) {
                    x.contest(1, 1);
                }
                Edge.range("way(#, 1) of " + contests, 0, contests - 1, v -> x.way(v, 1), v -> 0);
            }
            Due.is("way(0, 0) without contests", new BallotPapers().way(0, 0), INVALID);
        });
        Edge.of(WAY, "`way`: 0 to 2", () -> {
            Edge.range("way(0, #)", 0, 2, v -> States.names(1).way(0, v), v -> 0);
            BallotPapers x = States.names(1);
            Due.is("way(0, 2)", x.way(0, 2), 0);
            Due.is("way(0, 3)", x.way(0, 3), INVALID);
            Due.is("way(0, 0)", x.way(0, 0), 2);
            Due.is("way(0, -1)", x.way(0, -1), INVALID);
            Due.is("the way", x.contestOf(0, 2), 0);
        });
        Edge.of(WAY, "Returns what it was", () -> {
            int[] ways = {0, 1, 1, 2, 2, 0, 2, 1, 0};
            BallotPapers x = States.names(1);
            int before = 0;
            for (int way : ways) {
                Due.is("way(0, " + way + ")", x.way(0, way), before);
                before = way;
            }
            x.undo();
            Due.is("way(0, 0) behind undo", x.way(0, 0), 1);
        });
        Edge.of(WAY, OUT_OF_RANGE, () -> {
            Unchanged state = new Unchanged(States::open);
            state.byEach("way(#, 1)", INVALID, Edge.outside(0, 2), (x, v) -> x.way(v, 1));
            state.byEach("way(0, #)", INVALID, Edge.outside(0, 2), (x, v) -> x.way(0, v));
            Unchanged counted = new Unchanged(States::counted);
            counted.by("way(3, 1)", INVALID, x -> x.way(3, 1));
            counted.by("way(0, 3)", INVALID, x -> x.way(0, 3));
            Unchanged full = new Unchanged(States::full);
            full.by("way(6, 1)", INVALID, x -> x.way(6, 1));
        });
        Edge.of(WAY, "NOT_POSSIBLE if a ballot was counted", () -> {
            Unchanged state = new Unchanged(States::counted);
            state.byEach("way(0, #)", IMPOSSIBLE, new int[] {0, 1, 2}, (x, v) -> x.way(0, v));
            state.by("way(1, 1)", IMPOSSIBLE, x -> x.way(1, 1));
            ballotDecides("way(0, 1)", (x, v) -> x.way(0, 1));
        });
    }

    private static void papers() {
        Edge.of(PAPERS, "Tells how many papers of a version there are.", () -> {
            BallotPapers x = new BallotPapers();
            x.set(5, 3);
            x.papers(1, 9999);
            Due.is("papersOf(0)", x.papersOf(0), 0);
            Due.is("papersOf(1)", x.papersOf(1), 9999);
            Due.is("papersOf(2)", x.papersOf(2), 0);
            Due.is("papers of all", x.count(2), 9999);
            // It is told anew, not added.
            x.papers(1, 1);
            Due.is("papersOf(1)", x.papersOf(1), 1);
            // A ballot does not hinder it.
            BallotPapers y = States.counted();
            Due.is("papers(2, 9999)", y.papers(2, 9999), 5);
            Due.is("papersOf(2)", y.papersOf(2), 9999);
        });
        Edge.of(PAPERS, "`version`: number of the version", () -> {
            int[] all = {1, 2, 23, 24};
            for (int versions : all) {
                BallotPapers x = new BallotPapers();
                x.set(5, versions);
                Edge.range("papers(#, 7) of " + versions, 0, versions - 1, v -> x.papers(v, 7),
                        v -> 0);
                Due.is("papers of all", x.count(2), 7 * versions);
            }
        });
        Edge.of(PAPERS, "`many`: 0 to 9999", () -> {
            int[] allowed = {0, 1, 127, 128, 255, 256, 9998, 9999};
            for (int many : allowed) {
                BallotPapers x = new BallotPapers();
                Due.is("papers(0, " + many + ")", x.papers(0, many), 0);
                Due.is("papersOf(0)", x.papersOf(0), many);
            }
            for (int many : Edge.outside(0, 9999)) {
                BallotPapers x = new BallotPapers();
                Due.is("papers(0, " + many + ")", x.papers(0, many), INVALID);
                Due.is("papersOf(0)", x.papersOf(0), 0);
            }
        });
        Edge.of(PAPERS, "Returns how many there were", () -> {
            BallotPapers x = new BallotPapers();
            int[] all = {9999, 0, 1, 1, 9999};
            int before = 0;
            for (int many : all) {
                Due.is("papers(0, " + many + ")", x.papers(0, many), before);
                before = many;
            }
            x.undo();
            Due.is("papers(0, 2) behind undo", x.papers(0, 2), 1);
        });
        Edge.of(PAPERS, OUT_OF_RANGE, () -> {
            Unchanged state = new Unchanged(States::counted);
            state.byEach("papers(#, 1)", INVALID, Edge.outside(0, 2), (x, v) -> x.papers(v, 1));
            state.byEach("papers(0, #)", INVALID, Edge.outside(0, 9999),
                    (x, v) -> x.papers(0, v));
            Unchanged full = new Unchanged(States::full);
            full.by("papers(24, 0)", INVALID, x -> x.papers(24, 0));
            full.by("papers(23, 10000)", INVALID, x -> x.papers(23, 10000));
        });
    }

    private static void set() {
        Edge.of(SET, "Sets a setting.", () -> {
            for (int what = 0; what < 6; what++) {
                BallotPapers x = new BallotPapers();
                x.set(what, MOST[what]);
                for (int other = 0; other < 6; other++) {
                    Due.is("setting " + other + " behind set of " + what, x.count(10 + other),
                            other == what ? MOST[other] : AT_FIRST[other]);
                }
            }
            // A ballot does not hinder it.
            BallotPapers x = States.counted();
            Due.is("set(5, 24)", x.set(5, 24), 3);
            Due.is("versions", x.count(15), 24);
        });
        Edge.of(SET, "`what`: 0 to 5", () -> Edge.range("set(#, its most)", 0, 5,
                v -> new BallotPapers().set(v, v >= 0 && v < 6 ? MOST[v] : 20),
                v -> AT_FIRST[v]));
        Edge.of(SET, "`value`: a value in its range", () -> {
            for (int what = 0; what < 6; what++) {
                BallotPapers x = new BallotPapers();
                Due.is("least", x.set(what, LEAST[what]), AT_FIRST[what]);
                Due.is("one less", x.set(what, LEAST[what] - 1), INVALID);
                Due.is("most", x.set(what, MOST[what]), LEAST[what]);
                Due.is("one more", x.set(what, MOST[what] + 1), INVALID);
                Due.is("setting " + what, x.count(10 + what), MOST[what]);
                // The range of one setting is not that of another.
                Due.is("set(" + what + ", 0)", x.set(what, 0), what == 4 ? 30 : INVALID);
            }
        });
        Edge.of(SET, "Returns what it was", () -> {
            for (int what = 0; what < 6; what++) {
                BallotPapers x = new BallotPapers();
                Due.is("what it was at first", x.set(what, LEAST[what]), AT_FIRST[what]);
                Due.is("what it was", x.set(what, LEAST[what]), LEAST[what]);
                Due.is("what it was", x.set(what, MOST[what]), LEAST[what]);
                Due.is("what it was", x.set(what, LEAST[what]), MOST[what]);
                x.undo();
                Due.is("what it was behind undo", x.set(what, LEAST[what]), MOST[what]);
            }
        });
        Edge.of(SET, OUT_OF_RANGE, () -> {
            Unchanged state = new Unchanged(States::counted);
            for (int what = 0; what < 6; what++) {
                int setting = what;
                int least = what == 4 ? 0 : LEAST[what];
                state.byEach("set(" + what + ", #)", INVALID, Edge.outside(least, MOST[what]),
                        (x, v) -> x.set(setting, v));
            }
            state.byEach("set(4, #)", INVALID, new int[] {1, 2, 3}, (x, v) -> x.set(4, v));
            state.byEach("set(#, 20)", INVALID, Edge.outside(0, 5), (x, v) -> x.set(v, 20));
            state.byEach("set(#, 1)", INVALID, Edge.outside(0, 5), (x, v) -> x.set(v, 1));
            state.byEach("set(#, 0)", INVALID, Edge.outside(0, 5), (x, v) -> x.set(v, 0));
        });
    }

    private static void clearsAllVotes() {
        BallotPapers x = States.counted();
        Due.is("ballots", x.count(3), 3);
        Due.is("clear()", x.clear(), 3);
        Due.is("ballots", x.count(3), 0);
        for (int contest = 0; contest < 3; contest++) {
            for (int what = 4; what <= 6; what++) {
                Due.is("contestOf(" + contest + ", " + what + ")", x.contestOf(contest, what), 0);
            }
            for (int name = 0; name < x.contestOf(contest, 3); name++) {
                Due.is("votes", x.nameOf(contest, name, 1), 0);
            }
        }
        Due.is("a name can be added", x.name(1, 1), 0);
        Due.is("a way can be set", x.way(0, 2), 1);
        // Nothing else is cleared.
        Due.is("contests", x.count(0), 3);
        Due.is("papers", x.count(2), 35);
        Due.is("the text", x.count(5), 7);
        Due.is("seats", x.contestOf(0, 1), 2);
        // The first and the last name of all have no vote left, too.
        BallotPapers full = States.full();
        Due.written(full, "0:a0,f7,f0,f1");
        full.cast();
        Due.is("votes of the first name", full.nameOf(0, 0, 1), 1);
        Due.is("votes of the last name", full.nameOf(5, 7, 1), 1);
        Due.written(full, "0:f7,f0,f1,f2");
        full.cast();
        Due.written(full, "0:");
        full.cast();
        full.clear();
        Due.is("votes of the first name", full.nameOf(0, 0, 1), 0);
        Due.is("votes of the last name", full.nameOf(5, 7, 1), 0);
        Due.is("votes", full.contestOf(5, 4), 0);
        Due.is("spoilt", full.contestOf(5, 5), 0);
        Due.is("blank", full.contestOf(5, 6), 0);
        Due.is("blank", full.contestOf(0, 6), 0);
    }

    private static void clearedBallots() {
        BallotPapers x = States.names(1);
        Due.is("without ballots", x.clear(), 0);
        Due.written(x, "0:");
        for (int ballots = 1; ballots <= 20; ballots++) {
            for (int i = 0; i < ballots; i++) {
                x.cast();
            }
            Due.is("clear()", x.clear(), ballots);
            Due.is("clear() again", x.clear(), 0);
        }
        x.cast();
        x.undo();
        Due.is("behind the undo of a ballot", x.clear(), 0);
    }
}
