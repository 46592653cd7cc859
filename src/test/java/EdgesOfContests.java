/** The sentences of "What it is" and of "Contests, names". */
final class EdgesOfContests {
    private static final String SECTION = "Contests, names";
    private static final int INVALID = BallotPapers.INVALID_ARGUMENT;
    private static final int LIMIT = BallotPapers.LIMIT_REACHED;

    private EdgesOfContests() {
    }

    static void all() {
        Edge.of("What it is", "An object is used for at most 512 calls after it has been made; "
                + "what later calls answer is free.", EdgesOfContests::manyCalls);
        Edge.of(SECTION, "There are at most 6 contests, numbered from 0",
                EdgesOfContests::atMostSix);
        Edge.of(SECTION, "each with a title of some length (1 to 20 characters)",
                EdgesOfContests::titles);
        Edge.of(SECTION, "seats (1 to 3)", EdgesOfContests::seats);
        Edge.of(SECTION, "at most 8 names, numbered from 0", EdgesOfContests::atMostEight);
        Edge.of(SECTION, "each of some length (1 to 20)", EdgesOfContests::lengths);
        Edge.of(SECTION, "There are versions, numbered from 0 (as many as setting 5).",
                EdgesOfContests::versions);
        Edge.of(SECTION, "On a paper of the version v the n names of a contest stand in an order "
                + "by the way: 0: as they are numbered", EdgesOfContests::asNumbered);
        Edge.of(SECTION, "1: from the name (v modulo n) on, one behind the other, and then those "
                + "from 0 on", EdgesOfContests::turnedRound);
        Edge.of(SECTION, "2: as they are numbered, if v is even, otherwise the other way round",
                EdgesOfContests::turnedBack);
    }

    private static void manyCalls() {
        BallotPapers x = new BallotPapers();
        for (int call = 1; call <= 507; call++) {
            int before = call == 1 ? 20 : 8 + (call - 1) % 33;
            Due.is("the call " + call, x.set(2, 8 + call % 33), before);
        }
        for (int call = 508; call <= 511; call++) {
            Due.is("the call " + call, x.undo(), 511 - call);
        }
        Due.is("the call 512", x.count(12), 8 + 503 % 33);
    }

    private static void atMostSix() {
        BallotPapers x = new BallotPapers();
        Due.is("no contest", x.count(0), 0);
        Due.is("contestOf(0, 0) ahead of all", x.contestOf(0, 0), INVALID);
        for (int contest = 0; contest < 6; contest++) {
            Due.is("contestOf of the next", x.contestOf(contest, 0), INVALID);
            Due.is("contest", x.contest(contest + 3, 1), contest);
            Due.is("its title", x.contestOf(contest, 0), contest + 3);
        }
        Due.is("a seventh", x.contest(20, 1), LIMIT);
        Due.is("contests", x.count(0), 6);
        Due.is("contestOf(6, 0)", x.contestOf(6, 0), INVALID);
        Due.is("contestOf(-1, 0)", x.contestOf(-1, 0), INVALID);
        for (int contest = 0; contest < 6; contest++) {
            Due.is("title of " + contest, x.contestOf(contest, 0), contest + 3);
        }
        x.undo();
        Due.is("contests after undo", x.count(0), 5);
        Due.is("a sixth again", x.contest(1, 1), 5);
        Due.is("a seventh again", x.contest(1, 1), LIMIT);
    }

    private static void titles() {
        Edge.range("contest(#, 1)", 1, 20, v -> new BallotPapers().contest(v, 1), v -> 0);
        for (int title = 1; title <= 20; title++) {
            BallotPapers x = new BallotPapers();
            x.contest(title, 1);
            Due.is("the title", x.contestOf(0, 0), title);
        }
    }

    private static void seats() {
        Edge.range("contest(1, #)", 1, 3, v -> new BallotPapers().contest(1, v), v -> 0);
        for (int seats = 1; seats <= 3; seats++) {
            BallotPapers x = new BallotPapers();
            x.contest(1, seats);
            Due.is("the seats", x.contestOf(0, 1), seats);
        }
    }

    private static void atMostEight() {
        BallotPapers x = new BallotPapers();
        for (int contest = 0; contest < 6; contest++) {
            x.contest(1, 1);
        }
        int[] all = {0, 5, 2};
        for (int contest : all) {
            Due.is("no names", x.contestOf(contest, 3), 0);
            for (int name = 0; name < 8; name++) {
                Due.is("nameOf of the next", x.nameOf(contest, name, 0), INVALID);
                Due.is("name", x.name(contest, contest + name + 1), name);
                Due.is("its length", x.nameOf(contest, name, 0), contest + name + 1);
            }
            Due.is("a ninth", x.name(contest, 20), LIMIT);
            Due.is("names", x.contestOf(contest, 3), 8);
            Due.is("nameOf of the name 8", x.nameOf(contest, 8, 0), INVALID);
            Due.is("nameOf of the name -1", x.nameOf(contest, -1, 0), INVALID);
        }
        Due.is("names of another contest", x.contestOf(1, 3), 0);
        Due.is("names of all", x.count(1), 24);
        for (int contest : all) {
            for (int name = 0; name < 8; name++) {
                Due.is("length of the name " + name + " of " + contest,
                        x.nameOf(contest, name, 0), contest + name + 1);
            }
        }
    }

    private static void lengths() {
        Edge.range("name(0, #)", 1, 20, v -> States.names(0).name(0, v), v -> 0);
        for (int length = 1; length <= 20; length++) {
            Due.is("the length", Due.withNames(1, length).nameOf(0, 0, 0), length);
        }
    }

    private static void versions() {
        int[] all = {1, 2, 23, 24};
        for (int versions : all) {
            BallotPapers x = States.names(1);
            x.set(5, versions);
            Edge.range("stands(#, 0, 0) of " + versions + " versions", 0, versions - 1,
                    v -> x.stands(v, 0, 0), v -> 0);
        }
    }

    private static void asNumbered() {
        for (int names = 1; names <= 8; names++) {
            BallotPapers x = States.names(names);
            x.set(5, 24);
            for (int version = 0; version < 24; version++) {
                for (int place = 0; place < names; place++) {
                    Due.is(names + " names, version " + version + ", place " + place,
                            x.stands(version, 0, place), place);
                }
                Due.is("a place too many", x.stands(version, 0, names),
                        BallotPapers.NOT_FOUND);
            }
        }
    }

    private static void turnedRound() {
        for (int names = 1; names <= 8; names++) {
            BallotPapers x = States.names(names);
            x.set(5, 24);
            x.way(0, 1);
            int first = 0;
            for (int version = 0; version < 24; version++) {
                int name = first;
                for (int place = 0; place < names; place++) {
                    Due.is(names + " names, version " + version + ", place " + place,
                            x.stands(version, 0, place), name);
                    name = name == names - 1 ? 0 : name + 1;
                }
                first = first == names - 1 ? 0 : first + 1;
                Due.is("a place too many", x.stands(version, 0, names),
                        BallotPapers.NOT_FOUND);
            }
        }
        // Behind its last name the order is turned round: versions 7, 8 and 23 of eight names.
        BallotPapers x = States.names(8);
        x.set(5, 24);
        x.way(0, 1);
        Due.is("stands(7, 0, 0)", x.stands(7, 0, 0), 7);
        Due.is("stands(7, 0, 1)", x.stands(7, 0, 1), 0);
        Due.is("stands(7, 0, 7)", x.stands(7, 0, 7), 6);
        Due.is("stands(8, 0, 0)", x.stands(8, 0, 0), 0);
        Due.is("stands(8, 0, 7)", x.stands(8, 0, 7), 7);
        Due.is("stands(23, 0, 0)", x.stands(23, 0, 0), 7);
        Due.is("stands(23, 0, 7)", x.stands(23, 0, 7), 6);
    }

    private static void turnedBack() {
        for (int names = 1; names <= 8; names++) {
            BallotPapers x = States.names(names);
            x.set(5, 24);
            x.way(0, 2);
            for (int version = 0; version < 24; version += 2) {
                for (int place = 0; place < names; place++) {
                    String where = names + " names, place " + place + ", version ";
                    Due.is(where + version, x.stands(version, 0, place), place);
                    Due.is(where + (version + 1), x.stands(version + 1, 0, place),
                            names - 1 - place);
                }
                Due.is("a place too many", x.stands(version, 0, names),
                        BallotPapers.NOT_FOUND);
                Due.is("a place too many", x.stands(version + 1, 0, names),
                        BallotPapers.NOT_FOUND);
            }
        }
    }
}
