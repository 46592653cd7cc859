/** The sentences of the promises 8 to 11: what there is. */
final class EdgesOfAsking {
    private static final String CONTEST_OF = "Promise 8: contestOf";
    private static final String NAME_OF = "Promise 9: nameOf";
    private static final String COUNT = "Promise 10: count";
    private static final String PAPERS_OF = "Promise 11: papersOf";
    private static final String OUT_OF_RANGE = "INVALID_ARGUMENT if an argument is out of range";
    private static final int INVALID = BallotPapers.INVALID_ARGUMENT;

    private EdgesOfAsking() {
    }

    static void all() {
        contestOf();
        nameOf();
        count();
        papersOf();
    }

    private static void contestOf() {
        Edge.of(CONTEST_OF, "`contest`: number of the contest", () -> {
            for (int contests = 1; contests <= 6; contests++) {
                BallotPapers x = new BallotPapers();
                for (int contest = 0; contest < contests; contest++) {
                    x.contest(contest + 1, 1);
                }
                Edge.range("contestOf(#, 0) of " + contests, 0, contests - 1,
                        v -> x.contestOf(v, 0), v -> v + 1);
            }
            Due.is("contestOf(0, 0) without contests", new BallotPapers().contestOf(0, 0),
                    INVALID);
        });
        Edge.of(CONTEST_OF, "`what`: 0: the length of its title; 1: its seats; 2: its way; 3: its "
                + "names;", () -> {
            int[] first = {1, 1, 0, 0, 0, 0, 0};
            int[] last = {20, 3, 2, 8, 0, 0, 0};
            BallotPapers x = new BallotPapers();
            x.contest(1, 1);
            for (int contest = 1; contest < 6; contest++) {
                Due.addContest(x, 20, 3, 20, 20, 20, 20, 20, 20, 20, 20);
                x.way(contest, 2);
            }
            Edge.range("contestOf(0, #)", 0, 6, v -> x.contestOf(0, v), v -> first[v]);
            Edge.range("contestOf(5, #)", 0, 6, v -> x.contestOf(5, v), v -> last[v]);
        });
        Edge.of(CONTEST_OF, "4: votes of all its names;", () -> {
            BallotPapers x = States.full();
            Due.is("none", x.contestOf(5, 4), 0);
            Due.written(x, "0:f0,f1,f2,a7,a0");
            x.cast();
            Due.is("votes", x.contestOf(5, 4), 3);
            Due.is("votes", x.contestOf(0, 4), 2);
            Due.is("votes of the contest behind it", x.contestOf(1, 4), 0);
            Due.is("votes of the contest ahead of it", x.contestOf(4, 4), 0);
            Due.written(x, "0:f7");
            x.cast();
            x.cast();
            Due.is("votes", x.contestOf(5, 4), 5);
            Due.written(x, "0:f0,f1,f2,f3");
            x.cast();
            Due.is("none by a spoilt ballot", x.contestOf(5, 4), 5);
        });
        Edge.of(CONTEST_OF, "5: ballots that are spoilt in it;", () -> {
            BallotPapers x = States.full();
            Due.is("none", x.contestOf(5, 5), 0);
            Due.written(x, "0:f0,f1,f2");
            x.cast();
            Due.is("none by as many marks as seats", x.contestOf(5, 5), 0);
            Due.written(x, "0:f0,f1,f2,f3");
            x.cast();
            x.cast();
            Due.is("spoilt", x.contestOf(5, 5), 2);
            Due.is("spoilt in no other", x.contestOf(4, 5), 0);
        });
        Edge.of(CONTEST_OF, "6: ballots that are blank in it", () -> {
            BallotPapers x = States.counted();
            Due.is("blank in 0", x.contestOf(0, 6), 0);
            Due.is("without names", x.contestOf(1, 6), 0);
            Due.is("blank in 2", x.contestOf(2, 6), 1);
            Due.written(x, "0:");
            x.cast();
            Due.is("blank in 0", x.contestOf(0, 6), 1);
            Due.is("without names", x.contestOf(1, 6), 0);
            Due.is("blank in 2", x.contestOf(2, 6), 2);
        });
        Edge.of(CONTEST_OF, OUT_OF_RANGE, () -> {
            Unchanged state = new Unchanged(States::counted);
            state.byEach("contestOf(#, 0)", INVALID, Edge.outside(0, 2),
                    (x, v) -> x.contestOf(v, 0));
            state.byEach("contestOf(0, #)", INVALID, Edge.outside(0, 6),
                    (x, v) -> x.contestOf(0, v));
        });
    }

    private static void nameOf() {
        Edge.of(NAME_OF, "`contest`: number of the contest", () -> {
            BallotPapers x = new BallotPapers();
            for (int contest = 0; contest < 6; contest++) {
                Due.addContest(x, 1, 1, contest + 1);
                Edge.range("nameOf(#, 0, 0)", 0, contest, v -> x.nameOf(v, 0, 0), v -> v + 1);
            }
            Due.is("nameOf(0, 0, 0) without contests", new BallotPapers().nameOf(0, 0, 0),
                    INVALID);
        });
        Edge.of(NAME_OF, "`name`: number of the name", () -> {
            BallotPapers x = new BallotPapers();
            x.contest(1, 1);
            x.contest(1, 1);
            Due.is("nameOf(0, 0, 0) without names", x.nameOf(0, 0, 0), INVALID);
            for (int name = 0; name < 8; name++) {
                x.name(0, name + 1);
                Edge.range("nameOf(0, #, 0)", 0, name, v -> x.nameOf(0, v, 0), v -> v + 1);
                // Behind the last name of a contest there is not the first one of the next.
                Due.is("nameOf(1, 0, 0)", x.nameOf(1, 0, 0), INVALID);
            }
            x.name(1, 20);
            Due.is("nameOf(0, 8, 0)", x.nameOf(0, 8, 0), INVALID);
            Due.is("nameOf(1, -1, 0)", x.nameOf(1, -1, 0), INVALID);
            Due.is("nameOf(1, 0, 0)", x.nameOf(1, 0, 0), 20);
        });
        Edge.of(NAME_OF, "`what`: 0: its length; 1: its votes; 2: papers on which it is first;",
                () -> {
            BallotPapers x = States.full();
            int[] due = {20, 0, 3 * 9999, 0};
            Edge.range("nameOf(5, 7, #)", 0, 3, v -> x.nameOf(5, 7, v), v -> due[v]);
            Due.written(x, "7:f0");
            x.cast();
            x.cast();
            int[] counted = {20, 2, 3 * 9999, 1};
            Edge.range("nameOf(5, 7, #)", 0, 3, v -> x.nameOf(5, 7, v), v -> counted[v]);
            Due.is("votes of another name", x.nameOf(5, 0, 1), 0);
        });
        Edge.of(NAME_OF, "3: 1 if it has a seat, otherwise 0: if fewer names than seats have more "
                + "votes, or as many votes and a lower number", EdgesOfAsking::seats);
        Edge.of(NAME_OF, OUT_OF_RANGE, () -> {
            Unchanged state = new Unchanged(States::counted);
            state.byEach("nameOf(#, 0, 0)", INVALID, Edge.outside(0, 2),
                    (x, v) -> x.nameOf(v, 0, 0));
            state.byEach("nameOf(0, #, 0)", INVALID, Edge.outside(0, 2),
                    (x, v) -> x.nameOf(0, v, 0));
            state.byEach("nameOf(1, #, 0)", INVALID, new int[] {-1, 0, 1},
                    (x, v) -> x.nameOf(1, v, 0));
            state.byEach("nameOf(0, 0, #)", INVALID, Edge.outside(0, 3),
                    (x, v) -> x.nameOf(0, 0, v));
        });
    }

    private static void seats() {
        for (int seats = 1; seats <= 3; seats++) {
            for (int names = 1; names <= 8; names++) {
                BallotPapers x = new BallotPapers();
                x.contest(1, seats);
                for (int name = 0; name < names; name++) {
                    x.name(0, 1);
                }
                // As many votes each, none: the lower numbers have the seats.
                for (int name = 0; name < names; name++) {
                    Due.is(seats + " seats, name " + name + " of " + names, x.nameOf(0, name, 3),
                            name < seats ? 1 : 0);
                }
                // One vote for the last one: it has a seat, the others have those that are left.
                Due.written(x, "0:a" + (names - 1));
                x.cast();
                for (int name = 0; name < names; name++) {
                    boolean seat = name == names - 1 || name < seats - 1;
                    Due.is(seats + " seats, name " + name + " of " + names + ", the last has a "
                            + "vote", x.nameOf(0, name, 3), seat ? 1 : 0);
                }
            }
        }
        // Votes of the next contest and of the one ahead take no seat, though all have 8 names.
        BallotPapers full = States.full();
        Due.written(full, "0:b0,d7");
        full.cast();
        int[] among = {0, 2, 4};
        for (int contest : among) {
            for (int name = 0; name < 8; name++) {
                Due.is("seat of the name " + name + " of " + contest,
                        full.nameOf(contest, name, 3), name < 3 ? 1 : 0);
            }
        }
        // As many votes: the lower number. One vote more: the greater number.
        BallotPapers x = States.names(3);
        seated(x, "0:a2", 0, 0, 1);
        seated(x, "0:a1", 0, 1, 0);
        seated(x, "0:a0", 1, 0, 0);
        seated(x, "0:a1", 0, 1, 0);
        seated(x, "0:a2", 0, 1, 0);
        seated(x, "0:a2", 0, 0, 1);
    }

    private static void seated(BallotPapers x, String ballot, int... due) {
        Due.written(x, ballot);
        x.cast();
        for (int name = 0; name < due.length; name++) {
            Due.is("seat of " + name, x.nameOf(0, name, 3), due[name]);
        }
    }

    private static void count() {
        Edge.of(COUNT, "`what`: 0: contests; 1: names of all contests; 2: papers of all versions; "
                + "3: ballots that were counted; 4: states in the history; 5: the length of the "
                + "text; 10 to 15: the settings 0 to 5", () -> {
            int[] none = {0, 0, 0, 0, 0, 0, -1, -1, -1, -1, 2, 24, 20, 1, 0, 1};
            BallotPapers x = new BallotPapers();
            Edge.range("count(#) of a new object", 0, 15, x::count, v -> none[v]);
            int[] all = {6, 48, 24 * 9999, 0, 4, 40, -1, -1, -1, -1, 2, 24, 20, 1, 0, 24};
            BallotPapers full = States.full();
            Edge.range("count(#) of a full object", 0, 15, full::count, v -> all[v]);
            int[] some = {3, 5, 35, 3, 4, 7, -1, -1, -1, -1, 2, 16, 8, 1, 5, 3};
            BallotPapers counted = States.counted();
            Edge.range("count(#)", 0, 15, counted::count, v -> some[v]);
            // Each number alone, by one call more.
            counted.contest(1, 1);
            Due.is("contests", counted.count(0), 4);
            counted.papers(2, 6);
            Due.is("papers", counted.count(2), 36);
            counted.cast();
            Due.is("ballots", counted.count(3), 4);
            counted.undo();
            Due.is("states", counted.count(4), 3);
            Due.is("ballots", counted.count(3), 3);
            counted.type('x');
            Due.is("text", counted.count(5), 8);
            counted.clear();
            counted.name(1, 1);
            Due.is("names", counted.count(1), 6);
        });
        Edge.of(COUNT, "INVALID_ARGUMENT if what is out of range", () -> {
            Unchanged state = new Unchanged(States::counted);
            state.byEach("count(#)", INVALID, Edge.outside(0, 15), (x, v) -> x.count(v));
            state.byEach("count(#)", INVALID, new int[] {6, 7, 8, 9, 16, Integer.MIN_VALUE + 10},
                    (x, v) -> x.count(v));
        });
    }

    private static void papersOf() {
        Edge.of(PAPERS_OF, "`version`: number of the version", () -> {
            int[] all = {1, 2, 23, 24};
            for (int versions : all) {
                BallotPapers x = new BallotPapers();
                x.set(5, versions);
                for (int version = 0; version < versions; version++) {
                    x.papers(version, 9999 - version);
                }
                Edge.range("papersOf(#) of " + versions, 0, versions - 1, x::papersOf,
                        v -> 9999 - v);
            }
        });
        Edge.of(PAPERS_OF, "Returns how many;", () -> {
            BallotPapers x = new BallotPapers();
            Due.is("at first", x.papersOf(0), 0);
            int[] all = {1, 9999, 0};
            for (int many : all) {
                x.papers(0, many);
                Due.is("papersOf(0)", x.papersOf(0), many);
            }
            x.undo();
            Due.is("behind undo", x.papersOf(0), 9999);
        });
        Edge.of(PAPERS_OF, "INVALID_ARGUMENT.", () -> {
            Unchanged state = new Unchanged(States::counted);
            state.byEach("papersOf(#)", INVALID, Edge.outside(0, 2), (x, v) -> x.papersOf(v));
            BallotPapers x = States.counted();
            x.set(5, 2);
            Due.is("a version that is gone", x.papersOf(2), INVALID);
        });
    }
}
