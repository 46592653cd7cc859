import java.util.function.Supplier;

/** The sentences of "Ballots, texts". */
final class EdgesOfTexts {
    private static final String SECTION = "Ballots, texts";
    private static final int INVALID = BallotPapers.INVALID_ARGUMENT;
    private static final int NOT_FOUND = BallotPapers.NOT_FOUND;
    private static final int LIMIT = BallotPapers.LIMIT_REACHED;
    /** As many marks as a text of 40 characters has room for. */
    private static final String MOST_MARKS = "0:a0,a1,a2,b0,b1,b2,c0,c1,c2,d0,d1,d2,e0";

    private EdgesOfTexts() {
    }

    static void all() {
        Edge.of(SECTION, "There is a text of at most 40 characters, initially empty.",
                EdgesOfTexts::atMostForty);
        Edge.of(SECTION, "As a ballot it is a version (a number of one or two digits, without 0 "
                + "ahead of others)", EdgesOfTexts::versionsAsWritten);
        Edge.of(SECTION, "\":\", and any number of marks, with \",\" between two",
                EdgesOfTexts::anyNumberOfMarks);
        Edge.of(SECTION, "a contest (\"a\" for 0 and so on to \"f\")", EdgesOfTexts::contests);
        Edge.of(SECTION, "a place (one digit): which one, from 0 on, of its names in the order of "
                + "this version.", EdgesOfTexts::places);
        Edge.of(SECTION, "1: the first character that cannot stand at its place (its index;",
                EdgesOfTexts::wrongCharacters);
        Edge.of(SECTION, "the length of the text if it ends too early)",
                EdgesOfTexts::endsTooEarly);
        Edge.of(SECTION, "If there is none, the first one of these from the left:",
                EdgesOfTexts::orderOfFaults);
        Edge.of(SECTION, "2: a version that there is not (0)", EdgesOfTexts::noVersion);
        Edge.of(SECTION, "3: the contest of a mark whose contest or name there is not",
                EdgesOfTexts::noName);
        Edge.of(SECTION, "4: the contest of a mark that stands ahead of it already, with the same "
                + "contest and place (its index each).", EdgesOfTexts::markAgain);
        Edge.of(SECTION, "To count a ballot: in each contest whose marks are at most its seats, "
                + "each marked name has a vote more; otherwise the ballot is spoilt in this "
                + "contest.", EdgesOfTexts::votesAndSpoilt);
        Edge.of(SECTION, "In each contest with names and without a mark it is blank.",
                EdgesOfTexts::blank);
        Edge.of(SECTION, "Votes are counted for names, whichever the version is.",
                EdgesOfTexts::votesOfNames);
    }

    private static void due(BallotPapers x, String text, int place, int reason) {
        Due.written(x, text);
        Due.is("fault(0) of " + text, x.fault(0), place);
        Due.is("fault(1) of " + text, x.fault(1), reason);
    }

    private static void right(BallotPapers x, String text) {
        due(x, text, NOT_FOUND, NOT_FOUND);
    }

    /** Each text has an object of its own, where many texts would be more than 512 calls. */
    private static void due(Supplier<BallotPapers> made, String text, int place, int reason) {
        due(made.get(), text, place, reason);
    }

    private static void right(Supplier<BallotPapers> made, String text) {
        right(made.get(), text);
    }

    /** Six contests with many names each, and all versions. */
    private static BallotPapers wide(int names) {
        BallotPapers x = new BallotPapers();
        for (int contest = 0; contest < 6; contest++) {
            x.contest(1, 3);
            for (int name = 0; name < names; name++) {
                x.name(contest, 1);
            }
        }
        x.set(5, 24);
        return x;
    }

    private static void atMostForty() {
        BallotPapers x = new BallotPapers();
        Due.is("length at first", x.count(5), 0);
        Due.is("place of the fault at first", x.fault(0), 0);
        Due.is("reason of the fault at first", x.fault(1), 1);
        for (int length = 1; length <= 40; length++) {
            Due.is("type", x.type('0'), length);
            Due.is("length", x.count(5), length);
        }
        Due.is("one too many", x.type('0'), LIMIT);
        Due.is("length", x.count(5), 40);
        // The last character that there may be is a part of the ballot.
        BallotPapers y = wide(3);
        right(y, MOST_MARKS);
        Due.is("one too many", y.type('9'), LIMIT);
        Due.is("no fault by what was refused", y.fault(1), NOT_FOUND);
        due(y, MOST_MARKS.substring(0, 39) + "3", 38, 3);
        due(y, MOST_MARKS.substring(0, 39) + "x", 39, 1);
    }

    private static void versionsAsWritten() {
        Supplier<BallotPapers> x = () -> wide(0);
        for (int version = 0; version <= 99; version++) {
            boolean there = version < 24;
            due(x, version + ":", there ? NOT_FOUND : 0, there ? NOT_FOUND : 2);
        }
        for (int second = 0; second <= 9; second++) {
            due(x, "0" + second + ":", 1, 1);
            due(x, "1" + second + "0:", 2, 1);
            due(x, "2" + second + "9", 2, 1);
        }
        due(x, "000:", 1, 1);
        due(x, "-1:", 0, 1);
        due(x, "+1:", 0, 1);
        due(x, " 1:", 0, 1);
        due(x, "1 :", 1, 1);
        // The characters beside the digits.
        due(x, "/:", 0, 1);
        due(x, "::", 0, 1);
        due(x, "1/:", 1, 1);
        due(x, "1;:", 1, 1);
        due(x, "0/:", 1, 1);
        due(x, "10/", 2, 1);
        due(x, "10;", 2, 1);
    }

    private static void anyNumberOfMarks() {
        Supplier<BallotPapers> x = () -> wide(3);
        // None, one, and as many as there is room for.
        right(x, "0:");
        for (int length = 4; length <= 40; length += 3) {
            right(x, MOST_MARKS.substring(0, length));
        }
        right(x, "10" + MOST_MARKS.substring(1, 37));
        BallotPapers most = wide(3);
        Due.written(most, MOST_MARKS);
        Due.is("thirteen marks", most.cast(), 13);
        // "," between two alone: none ahead of the first, none behind the last, not two.
        due(x, "0:,", 2, 1);
        due(x, "0:,a0", 2, 1);
        due(x, "0:a0,", 5, 1);
        due(x, "0:a0,,a1", 5, 1);
        due(x, "0:a0a1", 4, 1);
        due(x, "0:a0;a1", 4, 1);
        due(x, "0:a0-a1", 4, 1);
        due(x, "0:a0+", 4, 1);
        due(x, "0:a0 ", 4, 1);
        due(x, "0,a0", 1, 1);
        due(x, "0::a0", 2, 1);
    }

    private static void contests() {
        Supplier<BallotPapers> x = () -> wide(1);
        for (int character = 32; character <= 126; character++) {
            boolean contest = character >= 'a' && character <= 'f';
            String text = "0:" + (char) character + "0";
            due(x, text, contest ? NOT_FOUND : 2, contest ? NOT_FOUND : 1);
        }
        // Each letter is its own contest.
        for (int contest = 0; contest < 6; contest++) {
            BallotPapers y = wide(1);
            Due.written(y, "0:" + (char) ('a' + contest) + "0");
            Due.is("cast", y.cast(), 1);
            for (int other = 0; other < 6; other++) {
                Due.is("votes of " + other, y.contestOf(other, 4), other == contest ? 1 : 0);
            }
        }
    }

    private static void places() {
        Supplier<BallotPapers> x = () -> States.names(8);
        for (int character = 32; character <= 126; character++) {
            boolean digit = character >= '0' && character <= '9';
            boolean name = digit && character <= '7';
            String text = "0:a" + (char) character;
            due(x, text, name ? NOT_FOUND : digit ? 2 : 3, name ? NOT_FOUND : digit ? 3 : 1);
        }
        due(x, "0:a07", 4, 1);
        // Eight names, turned: in the version 23 the place 0 is the name 7, and 1 the name 0.
        for (int place = 0; place < 8; place++) {
            BallotPapers y = States.names(8);
            y.set(5, 24);
            y.way(0, 1);
            Due.written(y, "23:a" + place);
            y.cast();
            Due.is("votes of the name", y.nameOf(0, place == 0 ? 7 : place - 1, 1), 1);
            y.clear();
            y.way(0, 2);
            y.cast();
            Due.is("votes of the name, way 2", y.nameOf(0, 7 - place, 1), 1);
            y.clear();
            y.way(0, 0);
            y.cast();
            Due.is("votes of the name, way 0", y.nameOf(0, place, 1), 1);
        }
    }

    private static void wrongCharacters() {
        Supplier<BallotPapers> x = () -> wide(3);
        // A character that cannot stand anywhere, at each place of a text.
        String[] texts = {MOST_MARKS, "11:f2,e1,d0"};
        for (String text : texts) {
            for (int at = 0; at < text.length(); at++) {
                due(x, text.substring(0, at) + "~" + text.substring(at + 1), at, 1);
                due(x, text.substring(0, at) + "~", at, 1);
            }
        }
        // The first one of several.
        due(x, "0:a0~a1~", 4, 1);
        due(x, "~~", 0, 1);
        // A text of 40 characters, of which the last one alone is wrong.
        due(x, MOST_MARKS.substring(0, 37) + ",e,", 39, 1);
        due(x, "11" + MOST_MARKS.substring(1, 37) + ",~", 39, 1);
    }

    private static void endsTooEarly() {
        Supplier<BallotPapers> x = () -> wide(3);
        right(x, MOST_MARKS);
        for (int length = 0; length <= 40; length++) {
            boolean whole = length >= 2 && length % 3 == 1 || length == 2;
            due(x, MOST_MARKS.substring(0, length), whole ? NOT_FOUND : length,
                    whole ? NOT_FOUND : 1);
        }
        due(x, "1", 1, 1);
        due(x, "11", 2, 1);
        due(x, "11:f", 4, 1);
        due(x, "11:f0,", 6, 1);
        // As long as a text may be, and a digit is missing.
        due(x, "11" + MOST_MARKS.substring(1, 37) + ",e", 40, 1);
        // It ends too early for a wrong version and wrong marks as well.
        due(x, "99", 2, 1);
        due(x, "0:a9,", 5, 1);
        due(x, "0:a0,a0,", 8, 1);
    }

    private static void orderOfFaults() {
        BallotPapers x = wide(3);
        // 1 ahead of the others, though it is the last character.
        due(x, "99:a9,a9~", 8, 1);
        due(x, "0:a0,a0~", 7, 1);
        due(x, "0:a9~", 4, 1);
        // 2 is ahead of the marks.
        due(x, "99:a9", 0, 2);
        due(x, "24:a0,a0", 0, 2);
        // Of 3 and 4 the first one from the left.
        due(x, "0:a9,b0,b0", 2, 3);
        due(x, "0:b0,b0,a9", 5, 4);
        due(x, "0:b0,a9,b0", 5, 3);
        due(x, "0:a9,a9", 2, 3);
        due(x, "0:a0,b0,b0,a0", 8, 4);
        due(x, "0:a3,b3", 2, 3);
    }

    private static void noVersion() {
        BallotPapers x = new BallotPapers();
        right(x, "0:");
        due(x, "1:", 0, 2);
        due(x, "9:", 0, 2);
        due(x, "10:", 0, 2);
        due(x, "99:", 0, 2);
        int[] all = {2, 9, 10, 11, 23, 24};
        for (int versions : all) {
            x.set(5, versions);
            right(x, (versions - 1) + ":");
            due(x, versions + ":", 0, 2);
            due(x, "99:", 0, 2);
        }
        // A version that is gone.
        x.set(5, 23);
        due(x, "23:", 0, 2);
        right(x, "22:");
    }

    private static void noName() {
        BallotPapers x = new BallotPapers();
        due(x, "0:a0", 2, 3);
        x.contest(1, 1);
        due(x, "0:a0", 2, 3);
        for (int name = 0; name < 8; name++) {
            x.name(0, 1);
            right(x, "0:a" + name);
            due(x, "0:a" + (name + 1), 2, 3);
        }
        due(x, "0:a8", 2, 3);
        due(x, "0:a9", 2, 3);
        for (int contest = 1; contest < 6; contest++) {
            char letter = (char) ('a' + contest);
            due(x, "0:a0," + letter + "0", 5, 3);
            Due.addContest(x, 1, 1, 1);
            right(x, "0:a0," + letter + "0");
            due(x, "0:a0," + letter + "1", 5, 3);
        }
        // In a version of two digits, and as the last mark that there is room for.
        x.set(5, 11);
        due(x, "10:a0,b1", 6, 3);
        BallotPapers y = wide(3);
        due(y, MOST_MARKS.substring(0, 37) + ",e3", 38, 3);
        due(y, MOST_MARKS.substring(0, 37) + ",e9", 38, 3);
    }

    private static void markAgain() {
        BallotPapers x = wide(8);
        due(x, "0:a0,a0", 5, 4);
        due(x, "0:f7,f7", 5, 4);
        due(x, "11:f7,f7", 6, 4);
        // The same contest and another place, another contest and the same place.
        right(x, "0:a0,a1");
        right(x, "0:a0,b0");
        right(x, "0:a1,b0,a0,b1");
        // It is the second one that is told, and the third one is not ahead of it.
        due(x, "0:a0,b0,a0", 8, 4);
        due(x, "0:a0,a0,a0", 5, 4);
        // The last mark is the first one again.
        due(x, MOST_MARKS.substring(0, 37) + ",a0", 38, 4);
        due(x, MOST_MARKS.substring(0, 37) + ",d2", 38, 4);
        right(x, MOST_MARKS);
    }

    private static void votesAndSpoilt() {
        String[] ballots = {"0:", "0:a0", "0:a0,a1", "0:a0,a1,a2", "0:a0,a1,a2,a3",
            "0:a0,a1,a2,a3,a4,a5,a6,a7"};
        int[] marks = {0, 1, 2, 3, 4, 8};
        for (int seats = 1; seats <= 3; seats++) {
            for (int i = 0; i < ballots.length; i++) {
                BallotPapers x = new BallotPapers();
                Due.addContest(x, 1, seats, 1, 1, 1, 1, 1, 1, 1, 1);
                Due.written(x, ballots[i]);
                int votes = marks[i] <= seats ? marks[i] : 0;
                Due.is("cast of " + ballots[i] + " by seats " + seats, x.cast(), votes);
                Due.is("votes", x.contestOf(0, 4), votes);
                Due.is("spoilt", x.contestOf(0, 5), marks[i] > seats ? 1 : 0);
                Due.is("blank", x.contestOf(0, 6), marks[i] == 0 ? 1 : 0);
                for (int name = 0; name < 8; name++) {
                    Due.is("votes of " + name, x.nameOf(0, name, 1), name < votes ? 1 : 0);
                }
            }
        }
        // Spoilt in one contest, counted in another.
        BallotPapers x = wide(4);
        Due.written(x, "0:a0,b0,a1,b1,a2,b2,a3");
        Due.is("cast", x.cast(), 3);
        Due.is("spoilt in 0", x.contestOf(0, 5), 1);
        Due.is("votes in 0", x.contestOf(0, 4), 0);
        Due.is("spoilt in 1", x.contestOf(1, 5), 0);
        Due.is("votes in 1", x.contestOf(1, 4), 3);
    }

    private static void blank() {
        BallotPapers x = new BallotPapers();
        Due.addContest(x, 1, 1, 1);
        Due.addContest(x, 1, 1);
        Due.addContest(x, 1, 1, 1, 1);
        String[] ballots = {"0:", "0:a0", "0:c0,c1", "0:a0,c1"};
        int[][] blank = {{1, 0, 1}, {1, 0, 2}, {2, 0, 2}, {2, 0, 2}};
        for (int i = 0; i < ballots.length; i++) {
            Due.written(x, ballots[i]);
            x.cast();
            for (int contest = 0; contest < 3; contest++) {
                Due.is("blank in " + contest + " behind " + ballots[i],
                        x.contestOf(contest, 6), blank[i][contest]);
            }
        }
        // A contest that is made behind a ballot: it has no names, and can have none.
        x.contest(1, 1);
        x.cast();
        Due.is("blank in 3", x.contestOf(3, 6), 0);
        // No contest at all.
        BallotPapers none = new BallotPapers();
        Due.written(none, "0:");
        Due.is("cast", none.cast(), 0);
        Due.is("ballots", none.count(3), 1);
    }

    private static void votesOfNames() {
        BallotPapers x = States.names(3);
        x.set(5, 6);
        x.way(0, 1);
        // The name 2 stands at the places 2, 1, 0, and so again.
        String[] ballots = {"0:a2", "1:a1", "2:a0", "3:a2", "4:a1", "5:a0"};
        for (int i = 0; i < ballots.length; i++) {
            Due.written(x, ballots[i]);
            Due.is("cast", x.cast(), 1);
            Due.is("votes of the name 2", x.nameOf(0, 2, 1), i + 1);
        }
        Due.is("votes of the name 0", x.nameOf(0, 0, 1), 0);
        Due.is("votes of the name 1", x.nameOf(0, 1, 1), 0);
        // The version of the votes goes, the votes stay.
        x.set(5, 1);
        Due.is("votes of the name 2", x.nameOf(0, 2, 1), 6);
    }
}
