import java.util.List;

/** The sentences of "Changes and errors". */
final class EdgesOfChanges {
    private static final String SECTION = "Changes and errors";
    private static final int INVALID = BallotPapers.INVALID_ARGUMENT;
    private static final int IMPOSSIBLE = BallotPapers.NOT_POSSIBLE;
    private static final int LIMIT = BallotPapers.LIMIT_REACHED;
    private static final int NOT_FOUND = BallotPapers.NOT_FOUND;

    private EdgesOfChanges() {
    }

    static void all() {
        Edge.of(SECTION, "The changes are the calls of contest, name, way, papers, set, clear and "
                + "cast that return no error.", EdgesOfChanges::changes);
        Edge.of(SECTION, "A history of at most 4 states is kept", EdgesOfChanges::atMostFour);
        Edge.of(SECTION, "each change records everything before it but the text",
                EdgesOfChanges::everythingButTheText);
        Edge.of(SECTION, "if there are 5 states then, the oldest one is dropped.",
                EdgesOfChanges::oldestDropped);
        Edge.of(SECTION, "If several errors apply to a call, INVALID_ARGUMENT is returned rather "
                + "than NOT_POSSIBLE", EdgesOfChanges::invalidFirst);
        Edge.of(SECTION, "NOT_POSSIBLE rather than LIMIT_REACHED",
                EdgesOfChanges::notPossibleSecond);
        Edge.of(SECTION, "LIMIT_REACHED rather than NOT_FOUND.", EdgesOfChanges::limitThird);
        Edge.of(SECTION, "A call that returns an error changes nothing.",
                EdgesOfChanges::errorsChangeNothing);
        Edge.of(SECTION, "If there is no contest, name or version with a certain number, this is "
                + "INVALID_ARGUMENT.", EdgesOfChanges::noSuchNumber);
        Edge.of(SECTION, "`INVALID_ARGUMENT = -1`: An argument is out of its range, or there is "
                + "no such contest, name or version.", () -> {
            Due.is("INVALID_ARGUMENT", BallotPapers.INVALID_ARGUMENT, -1);
            Due.is("title 21", new BallotPapers().contest(21, 1), -1);
            Due.is("no contest", new BallotPapers().spread(0), -1);
        });
        Edge.of(SECTION, "`NOT_POSSIBLE = -2`: The call is not possible in the present state.",
                () -> {
            Due.is("NOT_POSSIBLE", BallotPapers.NOT_POSSIBLE, -2);
            Due.is("undo()", new BallotPapers().undo(), -2);
        });
        Edge.of(SECTION, "`LIMIT_REACHED = -3`: A fixed limit has been reached.", () -> {
            Due.is("LIMIT_REACHED", BallotPapers.LIMIT_REACHED, -3);
            Due.is("contest(1, 1)", States.full().contest(1, 1), -3);
        });
        Edge.of(SECTION, "`NOT_FOUND = -4`: There is no such value.", () -> {
            Due.is("NOT_FOUND", BallotPapers.NOT_FOUND, -4);
            Due.is("stands(0, 0, 0)", States.names(0).stands(0, 0, 0), -4);
        });
    }

    /** Each kind of a change; what is set may be there already. */
    private static final List<Unchanged.Call> CHANGES = List.of(
            (x, i) -> x.contest(1 + i, 1),
            (x, i) -> x.name(0, 1 + i),
            (x, i) -> x.way(0, i % 3),
            (x, i) -> x.papers(0, i),
            (x, i) -> x.set(2, 10 + i),
            (x, i) -> x.clear(),
            (x, i) -> x.cast());

    private static void changes() {
        for (int kind = 0; kind < CHANGES.size(); kind++) {
            BallotPapers x = States.names(1);
            x.undo();
            x.undo();
            x.contest(1, 1);
            Due.written(x, "0:");
            Due.is("states ahead of it", x.count(4), 1);
            Due.is("a change of the kind " + kind + " is no error",
                    CHANGES.get(kind).with(x, 0) >= 0 ? 1 : 0, 1);
            Due.is("states behind a change of the kind " + kind, x.count(4), 2);
            Due.is("undo()", x.undo(), 1);
        }
        // What is set is there already: it is a change all the same.
        BallotPapers x = new BallotPapers();
        x.set(2, 20);
        Due.is("states behind set", x.count(4), 1);
        x.papers(0, 0);
        Due.is("states behind papers", x.count(4), 2);
        x.clear();
        Due.is("states behind clear", x.count(4), 3);
        BallotPapers y = States.names(0);
        y.way(0, 0);
        Due.is("states behind way", y.count(4), 2);
        noChanges();
    }

    private static void noChanges() {
        Unchanged state = new Unchanged(States::open);
        state.by("contestOf(0, 0)", 20, x -> x.contestOf(0, 0));
        state.by("nameOf(0, 1, 0)", 20, x -> x.nameOf(0, 1, 0));
        state.by("nameOf(0, 1, 2)", 20, x -> x.nameOf(0, 1, 2));
        state.by("nameOf(0, 0, 3)", 1, x -> x.nameOf(0, 0, 3));
        state.by("count(2)", 35, x -> x.count(2));
        state.by("papersOf(1)", 20, x -> x.papersOf(1));
        state.by("stands(1, 0, 0)", 1, x -> x.stands(1, 0, 0));
        state.by("lies(0, 0, 0, 4)", 3, x -> x.lies(0, 0, 0, 4));
        state.by("markAt(0, 0, 0, 3, 1)", 0, x -> x.markAt(0, 0, 0, 3, 1));
        state.by("paper(0, 0)", 1, x -> x.paper(0, 0));
        state.by("spread(0)", 15, x -> x.spread(0));
        state.by("evenVersions()", 6, x -> x.evenVersions());
        state.by("bestWidth(1)", 1, x -> x.bestWidth(1));
        state.by("fault(0)", NOT_FOUND, x -> x.fault(0));
        // Texts and undo are not recorded.
        BallotPapers x = States.names(1);
        Due.typed(x, "0:a0");
        Due.is("states behind type", x.count(4), 2);
        x.clearText();
        Due.is("states behind clearText", x.count(4), 2);
        x.undo();
        Due.is("states behind undo", x.count(4), 1);
    }

    private static void atMostFour() {
        BallotPapers x = new BallotPapers();
        Due.is("states at first", x.count(4), 0);
        for (int i = 1; i <= 12; i++) {
            x.set(2, 20 + i);
            Due.is("states behind " + i + " changes", x.count(4), Math.min(i, 4));
        }
        for (int left = 3; left >= 0; left--) {
            Due.is("undo()", x.undo(), left);
            Due.is("states", x.count(4), left);
        }
        Due.is("undo() of none", x.undo(), IMPOSSIBLE);
        Due.is("states", x.count(4), 0);
        // Four by each kind of a change.
        for (Unchanged.Call change : CHANGES) {
            BallotPapers y = States.names(1);
            Due.typed(y, "0:");
            for (int i = 0; i < 5; i++) {
                change.with(y, i);
            }
            Due.is("states", y.count(4), 4);
            Due.is("undo()", y.undo(), 3);
        }
    }

    private static void everythingButTheText() {
        // Behind each change and its undo all is as it was, the text too, which is not touched.
        List<String> open = Answers.of(EdgesOfChanges::openWithRoom);
        for (int kind = 0; kind < CHANGES.size(); kind++) {
            Unchanged.Call change = CHANGES.get(kind);
            Due.same("behind the undo of a change of the kind " + kind, Answers.of(() -> {
                BallotPapers x = openWithRoom();
                Due.is("a change is no error", change.with(x, 1) >= 0 ? 1 : 0, 1);
                x.undo();
                return x;
            }), open);
        }
        // A text that is written behind the change stays.
        BallotPapers x = States.names(1);
        Due.typed(x, "0:a0");
        x.cast();
        Due.written(x, "0:a0,a0");
        x.undo();
        Due.is("length of the text", x.count(5), 7);
        Due.is("its fault", x.fault(0), 5);
        x.clearText();
        x.undo();
        Due.is("length of the text", x.count(5), 0);
        // Votes, spoilt and blank are brought back, and the papers of versions that were gone.
        List<String> counted = Answers.of(EdgesOfChanges::countedWithRoom);
        Due.same("behind the undo of clear and set", Answers.of(() -> {
            BallotPapers y = countedWithRoom();
            y.clear();
            y.set(5, 1);
            y.undo();
            y.undo();
            return y;
        }), counted);
    }

    /** Two states in the history, so that two changes more drop none. */
    private static BallotPapers openWithRoom() {
        BallotPapers x = States.open();
        x.undo();
        x.undo();
        return x;
    }

    private static BallotPapers countedWithRoom() {
        BallotPapers x = States.counted();
        x.undo();
        x.undo();
        return x;
    }

    private static void oldestDropped() {
        // Widths 20 to 20 + n: undo goes back to the fourth state from the end, and no further.
        for (int changes = 1; changes <= 13; changes++) {
            BallotPapers x = new BallotPapers();
            for (int i = 1; i <= changes; i++) {
                x.set(2, 20 + i);
            }
            int kept = Math.min(changes, 4);
            for (int left = kept - 1; left >= 0; left--) {
                Due.is("undo() behind " + changes, x.undo(), left);
                Due.is("width", x.count(12), 20 + changes - (kept - left));
            }
            Due.is("undo() of none", x.undo(), IMPOSSIBLE);
            Due.is("width", x.count(12), 20 + changes - kept);
        }
        // Undo makes room: what is dropped is dropped for 5 states only.
        for (int undone = 1; undone <= 4; undone++) {
            BallotPapers x = new BallotPapers();
            for (int i = 1; i <= 6; i++) {
                x.set(2, 20 + i);
            }
            for (int i = 0; i < undone; i++) {
                x.undo();
            }
            for (int i = 1; i <= undone; i++) {
                x.set(2, 30 + i);
            }
            Due.is("states", x.count(4), 4);
            for (int i = undone; i >= 1; i--) {
                Due.is("width", x.count(12), 30 + i);
                x.undo();
            }
            for (int i = 6 - undone; i >= 2; i--) {
                Due.is("width", x.count(12), 20 + i);
                Due.is("undo()", x.undo(), i > 2 ? i - 3 : IMPOSSIBLE);
            }
        }
    }

    private static void invalidFirst() {
        BallotPapers x = States.counted();
        Due.is("name of length 0", x.name(0, 0), INVALID);
        Due.is("name of length 21", x.name(0, 21), INVALID);
        Due.is("name of contest 3", x.name(3, 1), INVALID);
        Due.is("name of contest -1", x.name(-1, 1), INVALID);
        Due.is("name", x.name(0, 1), IMPOSSIBLE);
        Due.is("way 3", x.way(0, 3), INVALID);
        Due.is("way -1", x.way(0, -1), INVALID);
        Due.is("way of contest 3", x.way(3, 1), INVALID);
        Due.is("way of contest -1", x.way(-1, 1), INVALID);
        Due.is("way", x.way(0, 1), IMPOSSIBLE);
    }

    private static void notPossibleSecond() {
        BallotPapers x = States.names(8);
        Due.is("a ninth name", x.name(0, 1), LIMIT);
        Due.written(x, "0:");
        x.cast();
        Due.is("a ninth name behind a ballot", x.name(0, 1), IMPOSSIBLE);
        Due.is("a ninth name of a wrong length behind a ballot", x.name(0, 0), INVALID);
        x.clear();
        Due.is("a ninth name behind clear", x.name(0, 1), LIMIT);
        // Behind 9998 calls more, which is more than is promised, a ballot too many has a fault.
        x.cast();
        for (int i = 1; i < 9999; i++) {
            x.cast();
        }
        Due.is("a ballot too many", x.cast(), LIMIT);
        Due.written(x, "0:a8");
        Due.is("a ballot too many with a fault", x.cast(), IMPOSSIBLE);
    }

    private static void limitThird() {
        // No call can answer both; each one is less than INVALID_ARGUMENT.
        BallotPapers x = States.full();
        Due.is("a seventh contest", x.contest(1, 1), LIMIT);
        Due.is("a seventh contest of title 0", x.contest(0, 1), INVALID);
        Due.is("a seventh contest of seats 4", x.contest(1, 4), INVALID);
        Due.is("a ninth name", x.name(5, 1), LIMIT);
        Due.is("a ninth name of length 21", x.name(5, 21), INVALID);
        Due.is("a character too many", x.type(126), LIMIT);
        Due.is("a wrong character too many", x.type(127), INVALID);
        Due.is("no such place", x.stands(0, 0, 8), NOT_FOUND);
        Due.is("no such place, wrong version", x.stands(24, 0, 8), INVALID);
        Due.is("no such place, wrong contest", x.stands(0, 6, 8), INVALID);
        Due.is("no mark", x.markAt(0, 99, 0, 0, 0), NOT_FOUND);
        Due.is("no mark, wrong version", x.markAt(24, 99, 0, 0, 0), INVALID);
        Due.is("no mark, wrong column", x.markAt(0, 99, 2, 0, 0), INVALID);
        Due.is("no mark, wrong line", x.markAt(0, 99, 0, 24, 0), INVALID);
        Due.is("no mark, wrong what", x.markAt(0, 99, 0, 0, 2), INVALID);
        Due.is("no fault", x.fault(0), NOT_FOUND);
        Due.is("no fault, wrong what", x.fault(2), INVALID);
    }

    private static void errorsChangeNothing() {
        // One call of each error; the promises' own tests have the others.
        Unchanged counted = new Unchanged(States::counted);
        counted.by("contest(0, 1)", INVALID, x -> x.contest(0, 1));
        counted.by("name(0, 1)", IMPOSSIBLE, x -> x.name(0, 1));
        counted.by("way(0, 2)", IMPOSSIBLE, x -> x.way(0, 2));
        counted.by("papers(3, 1)", INVALID, x -> x.papers(3, 1));
        counted.by("set(5, 25)", INVALID, x -> x.set(5, 25));
        counted.by("cast() with a fault behind it", IMPOSSIBLE, x -> {
            x.type(',');
            int answer = x.cast();
            Due.written(x, "2:a0,c1");
            return answer;
        });
        Unchanged full = new Unchanged(States::full);
        full.by("contest(1, 1)", LIMIT, x -> x.contest(1, 1));
        full.by("name(5, 1)", LIMIT, x -> x.name(5, 1));
        full.by("type('0')", LIMIT, x -> x.type('0'));
        Unchanged empty = new Unchanged(BallotPapers::new);
        empty.by("undo()", IMPOSSIBLE, x -> x.undo());
        empty.by("cast()", IMPOSSIBLE, x -> x.cast());
        empty.by("name(0, 1)", INVALID, x -> x.name(0, 1));
    }

    private static void noSuchNumber() {
        BallotPapers none = new BallotPapers();
        Due.is("name(0, 1)", none.name(0, 1), INVALID);
        Due.is("way(0, 0)", none.way(0, 0), INVALID);
        Due.is("contestOf(0, 0)", none.contestOf(0, 0), INVALID);
        Due.is("nameOf(0, 0, 0)", none.nameOf(0, 0, 0), INVALID);
        Due.is("stands(0, 0, 0)", none.stands(0, 0, 0), INVALID);
        Due.is("lies(0, 0, 0, 0)", none.lies(0, 0, 0, 0), INVALID);
        Due.is("spread(0)", none.spread(0), INVALID);
        Due.is("papers(1, 0)", none.papers(1, 0), INVALID);
        Due.is("papersOf(1)", none.papersOf(1), INVALID);
        Due.is("markAt(1, 0, 0, 0, 0)", none.markAt(1, 0, 0, 0, 0), INVALID);
        Due.is("paper(1, 0)", none.paper(1, 0), INVALID);
        // Behind the last one of as many as there may be.
        BallotPapers x = States.full();
        Due.is("name(6, 1)", x.name(6, 1), INVALID);
        Due.is("way(6, 0)", x.way(6, 0), INVALID);
        Due.is("contestOf(6, 0)", x.contestOf(6, 0), INVALID);
        Due.is("nameOf(6, 0, 0)", x.nameOf(6, 0, 0), INVALID);
        Due.is("nameOf(5, 8, 0)", x.nameOf(5, 8, 0), INVALID);
        Due.is("nameOf(0, 8, 0)", x.nameOf(0, 8, 0), INVALID);
        Due.is("stands(0, 6, 0)", x.stands(0, 6, 0), INVALID);
        Due.is("stands(24, 0, 0)", x.stands(24, 0, 0), INVALID);
        Due.is("lies(24, 0, 0, 0)", x.lies(24, 0, 0, 0), INVALID);
        Due.is("lies(0, 6, 0, 0)", x.lies(0, 6, 0, 0), INVALID);
        Due.is("lies(0, 0, 8, 0)", x.lies(0, 0, 8, 0), INVALID);
        Due.is("spread(6)", x.spread(6), INVALID);
        Due.is("papers(24, 0)", x.papers(24, 0), INVALID);
        Due.is("papersOf(24)", x.papersOf(24), INVALID);
        Due.is("markAt(24, 0, 0, 0, 0)", x.markAt(24, 0, 0, 0, 0), INVALID);
        Due.is("paper(24, 0)", x.paper(24, 0), INVALID);
        // A number that there was, and that undo took back.
        BallotPapers y = States.names(1);
        y.contest(1, 1);
        y.undo();
        Due.is("contestOf(1, 0)", y.contestOf(1, 0), INVALID);
        Due.is("spread(1)", y.spread(1), INVALID);
        y.undo();
        Due.is("nameOf(0, 0, 0)", y.nameOf(0, 0, 0), INVALID);
        Due.is("lies(0, 0, 0, 0)", y.lies(0, 0, 0, 0), INVALID);
    }
}
