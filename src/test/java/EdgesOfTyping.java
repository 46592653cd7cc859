/** The sentences of the promises 20 to 23: texts and ballots. */
final class EdgesOfTyping {
    private static final String TYPE = "Promise 20: type";
    private static final String CLEAR_TEXT = "Promise 21: clearText";
    private static final String FAULT = "Promise 22: fault";
    private static final String CAST = "Promise 23: cast";
    private static final int INVALID = BallotPapers.INVALID_ARGUMENT;
    private static final int IMPOSSIBLE = BallotPapers.NOT_POSSIBLE;
    private static final int LIMIT = BallotPapers.LIMIT_REACHED;
    private static final int NOT_FOUND = BallotPapers.NOT_FOUND;

    private EdgesOfTyping() {
    }

    static void all() {
        type();
        clearText();
        fault();
        cast();
    }

    private static void type() {
        Edge.of(TYPE, "Appends a character to the text.", () -> {
            // The characters stand in the order in which they were typed.
            BallotPapers x = States.names(3);
            Due.typed(x, "0");
            Due.is("a colon is missing", x.fault(0), 1);
            Due.typed(x, ":");
            Due.is("a ballot", x.fault(0), NOT_FOUND);
            Due.typed(x, "a");
            Due.is("a place is missing", x.fault(0), 3);
            Due.typed(x, "2");
            Due.is("cast", x.cast(), 1);
            Due.is("votes", x.nameOf(0, 2, 1), 1);
        });
        Edge.of(TYPE, "`character`: 32 to 126", () -> {
            Edge.range("type(#)", 32, 126, v -> new BallotPapers().type(v), v -> 1);
            BallotPapers x = new BallotPapers();
            Due.is("type(31)", x.type(31), INVALID);
            Due.is("type(32)", x.type(32), 1);
            Due.is("type(127)", x.type(127), INVALID);
            Due.is("type(126)", x.type(126), 2);
        });
        Edge.of(TYPE, "Returns the length of the text", () -> {
            BallotPapers x = new BallotPapers();
            for (int length = 1; length <= 40; length++) {
                Due.is("type", x.type(length + 40), length);
                Due.is("length", x.count(5), length);
            }
            x.clearText();
            Due.is("behind clearText", x.type('0'), 1);
        });
        Edge.of(TYPE, "INVALID_ARGUMENT if character is out of range", () -> {
            Unchanged state = new Unchanged(States::counted);
            state.byEach("type(#)", INVALID, Edge.outside(32, 126), (x, v) -> x.type(v));
            // Characters that would be a digit or ":" if they were cut to eight or sixteen bits.
            state.byEach("type(#)", INVALID, new int[] {256 + '0', 65536 + '0', 256 + ':',
                '0' - 256, '0' - 65536, 9, 10, 13, 128, 160, 255}, (x, v) -> x.type(v));
            Unchanged full = new Unchanged(States::full);
            full.by("type(127)", INVALID, x -> x.type(127));
            full.by("type(31)", INVALID, x -> x.type(31));
        });
        Edge.of(TYPE, "LIMIT_REACHED if it has 40 characters", () -> {
            Unchanged full = new Unchanged(States::full);
            full.by("type(32)", LIMIT, x -> x.type(32));
            full.by("type(126)", LIMIT, x -> x.type(126));
            BallotPapers x = new BallotPapers();
            Due.typed(x, "123456789012345678901234567890123456789");
            Due.is("length", x.count(5), 39);
            Due.is("the character 40", x.type('0'), 40);
            Due.is("one too many", x.type('0'), LIMIT);
            Due.is("one too many again", x.type('0'), LIMIT);
            x.clearText();
            Due.is("behind clearText", x.type('0'), 1);
        });
    }

    private static void clearText() {
        Edge.of(CLEAR_TEXT, "Empties the text.", () -> {
            BallotPapers x = States.names(1);
            Due.typed(x, "0:a0,a0");
            Due.is("reason", x.fault(1), 4);
            x.clearText();
            Due.is("length", x.count(5), 0);
            Due.is("place", x.fault(0), 0);
            Due.is("reason", x.fault(1), 1);
            Due.is("cast()", x.cast(), IMPOSSIBLE);
            // Nothing of it stands behind what is typed next, wherever that ends.
            String text = "0:a0,a0";
            int[] places = {0, 1, NOT_FOUND, 3, NOT_FOUND, 5, 6, 5};
            int[] reasons = {1, 1, NOT_FOUND, 1, NOT_FOUND, 1, 1, 4};
            for (int length = 7; length >= 0; length--) {
                Due.written(x, text);
                Due.written(x, text.substring(0, length));
                Due.is("place in the first " + length, x.fault(0), places[length]);
                Due.is("reason in the first " + length, x.fault(1), reasons[length]);
            }
            Due.written(x, "0:");
            Due.is("no fault", x.fault(0), NOT_FOUND);
            Due.is("cast()", x.cast(), 0);
            Due.is("votes", x.nameOf(0, 0, 1), 0);
        });
        Edge.of(CLEAR_TEXT, "Returns the length it had.", () -> {
            BallotPapers x = new BallotPapers();
            Due.is("clearText() of nothing", x.clearText(), 0);
            int[] lengths = {1, 2, 39, 40};
            for (int length : lengths) {
                for (int i = 0; i < length; i++) {
                    x.type('0');
                }
                Due.is("clearText()", x.clearText(), length);
                Due.is("clearText() again", x.clearText(), 0);
            }
            for (int i = 0; i < 41; i++) {
                x.type('0');
            }
            Due.is("clearText() behind one too many", x.clearText(), 40);
        });
    }

    private static void faultsDue(String text, int place, int reason) {
        BallotPapers x = States.names(3);
        Due.typed(x, text);
        int[] due = {place, reason};
        Edge.range("fault(#) of " + text, 0, 1, x::fault, v -> due[v]);
    }

    private static void fault() {
        Edge.of(FAULT, "Tells about the fault of the text as a ballot.", () -> {
            // It is told of what there is now: it comes and goes with names and versions.
            BallotPapers x = new BallotPapers();
            Due.typed(x, "1:a0");
            Due.is("no version", x.fault(1), 2);
            x.set(5, 2);
            Due.is("no contest", x.fault(1), 3);
            x.contest(1, 1);
            Due.is("no name", x.fault(1), 3);
            x.name(0, 1);
            Due.is("none", x.fault(1), NOT_FOUND);
            x.undo();
            Due.is("no name", x.fault(1), 3);
            x.undo();
            x.undo();
            Due.is("no version", x.fault(1), 2);
        });
        Edge.of(FAULT, "`what`: 0: its place; 1: its reason", () -> {
            faultsDue("", 0, 1);
            faultsDue("0:a2", NOT_FOUND, NOT_FOUND);
            faultsDue("0:a2,", 5, 1);
            faultsDue("1:a2", 0, 2);
            faultsDue("0:a3", 2, 3);
            faultsDue("0:a2,a2", 5, 4);
            faultsDue("0:a0,a1,a2,a0,a1,a2,a0,a1,a2,a0,a1,a2,a0", 11, 4);
        });
        Edge.of(FAULT, "Returns that", () -> {
            // The place 0 and the greatest one, the reason 1 and the greatest one.
            faultsDue("~", 0, 1);
            faultsDue("0:a0,a1,a2,a0,a1,a2,a0,a1,a2,a0,a1,a2,a~", 39, 1);
            BallotPapers x = States.full();
            Due.written(x, "10:a0,a1,a2,b0,b1,b2,c0,c1,c2,d0,d1,d2,e");
            Due.is("fault(0)", x.fault(0), 40);
            Due.is("fault(1)", x.fault(1), 1);
            Due.written(x, "0:a0,a1,a2,b0,b1,b2,c0,c1,c2,d0,d1,d2,d2");
            Due.is("fault(0)", x.fault(0), 38);
            Due.is("fault(1)", x.fault(1), 4);
        });
        Edge.of(FAULT, "INVALID_ARGUMENT if what is out of range", () -> {
            Unchanged state = new Unchanged(States::counted);
            state.byEach("fault(#)", INVALID, Edge.outside(0, 1), (x, v) -> x.fault(v));
            Unchanged empty = new Unchanged(BallotPapers::new);
            empty.byEach("fault(#)", INVALID, Edge.outside(0, 1), (x, v) -> x.fault(v));
        });
        Edge.of(FAULT, "NOT_FOUND if the text has no fault", () -> {
            Unchanged state = new Unchanged(States::counted);
            state.by("fault(0)", NOT_FOUND, x -> x.fault(0));
            state.by("fault(1)", NOT_FOUND, x -> x.fault(1));
            faultsDue("0:", NOT_FOUND, NOT_FOUND);
            faultsDue("0:a0,a1,a2", NOT_FOUND, NOT_FOUND);
            Due.is("as long as there may be", States.full().fault(0), NOT_FOUND);
            // More marks than seats are no fault: the ballot is spoilt.
            BallotPapers x = States.names(3);
            Due.typed(x, "0:a0,a1");
            Due.is("more marks than seats", x.fault(1), NOT_FOUND);
        });
    }

    private static void cast() {
        Edge.of(CAST, "Counts the ballot of the text, which stays.", () -> {
            BallotPapers x = States.names(2);
            Due.typed(x, "0:a1");
            for (int ballots = 1; ballots <= 50; ballots++) {
                x.cast();
                Due.is("ballots", x.count(3), ballots);
                Due.is("votes", x.nameOf(0, 1, 1), ballots);
                Due.is("length of the text", x.count(5), 4);
            }
            Due.typed(x, ",a0");
            Due.is("the text goes on where it was", x.fault(0), NOT_FOUND);
            x.cast();
            Due.is("spoilt", x.contestOf(0, 5), 1);
        });
        Edge.of(CAST, "Returns how many names have a vote more", () -> {
            String[] ballots = {"0:", "0:a0", "0:a0,a1", "0:a0,a1,a2", "0:a0,a1,a2,a3",
                "0:a0,a1,a2,b0", "0:a0,a1,a2,a3,b0,b1", "0:a0,a1,a2,a3,b0,b1,b2,b3"};
            int[] more = {0, 1, 2, 3, 0, 4, 2, 0};
            for (int i = 0; i < ballots.length; i++) {
                BallotPapers x = States.full();
                Due.written(x, ballots[i]);
                Due.is("cast of " + ballots[i], x.cast(), more[i]);
            }
            Due.is("as many as there may be", States.full().cast(), 13);
        });
        Edge.of(CAST, "NOT_POSSIBLE if the text has a fault", () -> {
            String[] texts = {"", "~", "0", "0:a", "0:a0,", "3:", "99:", "0:a3", "0:b0", "0:d0",
                "0:a0,a0"};
            for (String text : texts) {
                Unchanged state = new Unchanged(() -> {
                    BallotPapers x = States.counted();
                    Due.written(x, text);
                    return x;
                });
                state.by("cast() of " + text, IMPOSSIBLE, x -> x.cast());
            }
        });
        Edge.of(CAST, "LIMIT_REACHED if 9999 ballots were counted", EdgesOfTyping::mostBallots);
    }

    /** More calls than are promised: by 512 of them the limit can't be reached. */
    private static void mostBallots() {
        BallotPapers x = States.names(2);
        Due.typed(x, "0:a1");
        for (int ballots = 1; ballots < 9999; ballots++) {
            x.cast();
        }
        Due.is("ballots", x.count(3), 9998);
        Due.is("the last one", x.cast(), 1);
        Due.is("one too many", x.cast(), LIMIT);
        Due.is("ballots", x.count(3), 9999);
        Due.is("votes", x.nameOf(0, 1, 1), 9999);
        Due.is("states", x.count(4), 4);
        x.undo();
        Due.is("the last one again", x.cast(), 1);
        Due.is("one too many again", x.cast(), LIMIT);
        Due.is("clear()", x.clear(), 9999);
        Due.is("the first one", x.cast(), 1);
    }
}
