/** Promise 23: cast. */
public final class CastTest {
    public static void main(String[] args) {
        votesByVersion();
        spoiltAndBlank();
        faults();
        mostBallots();
        Due.end();
    }

    private static void votes(BallotPapers x, int contest, int... votes) {
        for (int name = 0; name < votes.length; name++) {
            Due.is("votes of contest " + contest + ", name " + name,
                    x.nameOf(contest, name, 1), votes[name]);
        }
    }

    private static int cast(BallotPapers x, String ballot) {
        Due.written(x, ballot);
        return x.cast();
    }

    private static void votesByVersion() {
        BallotPapers x = new BallotPapers();
        Due.addContest(x, 5, 2, 1, 2, 3);
        Due.addContest(x, 5, 1, 1, 2);
        x.set(5, 12);
        x.way(0, 1);
        x.way(1, 2);
        Due.is("cast", cast(x, "0:a0"), 1);
        votes(x, 0, 1, 0, 0);
        Due.is("cast", cast(x, "1:a0,b0"), 2);
        votes(x, 0, 1, 1, 0);
        votes(x, 1, 0, 1);
        Due.is("cast", cast(x, "11:b1,a2,a0"), 3);
        votes(x, 0, 1, 2, 1);
        votes(x, 1, 1, 1);
        Due.is("the text stays", x.count(5), 11);
        Due.is("cast again", x.cast(), 3);
        votes(x, 0, 1, 3, 2);
        Due.is("ballots", x.count(3), 4);
        Due.is("votes of contest 0", x.contestOf(0, 4), 6);
        Due.is("papers stay", x.count(2), 0);

        // Votes are kept for names, though the version goes.
        x.set(5, 1);
        votes(x, 0, 1, 3, 2);
    }

    private static void spoiltAndBlank() {
        BallotPapers x = new BallotPapers();
        Due.addContest(x, 5, 1, 1, 2, 3);
        Due.addContest(x, 5, 2, 1, 2, 3);
        Due.addContest(x, 5, 3);
        Due.is("too many in one", cast(x, "0:a0,b0,a1,b2"), 2);
        votes(x, 0, 0, 0, 0);
        votes(x, 1, 1, 0, 1);
        Due.is("spoilt", x.contestOf(0, 5), 1);
        Due.is("not spoilt", x.contestOf(1, 5), 0);
        Due.is("not blank", x.contestOf(0, 6), 0);
        Due.is("too many in both", cast(x, "0:a0,a1,a2,b0,b1,b2"), 0);
        Due.is("spoilt", x.contestOf(0, 5), 2);
        Due.is("spoilt", x.contestOf(1, 5), 1);
        Due.is("nothing marked", cast(x, "0:"), 0);
        Due.is("blank", x.contestOf(0, 6), 1);
        Due.is("blank", x.contestOf(1, 6), 1);
        Due.is("blank in one", cast(x, "0:b1"), 1);
        Due.is("blank", x.contestOf(0, 6), 2);
        Due.is("blank", x.contestOf(1, 6), 1);
        Due.is("a contest without names is not blank", x.contestOf(2, 6), 0);
        Due.is("ballots", x.count(3), 4);

        BallotPapers one = Due.withNames(5, 1);
        cast(one, "0:");
        Due.is("a contest with one name is blank", one.contestOf(0, 6), 1);
    }

    private static void faults() {
        BallotPapers x = Due.withNames(5, 1, 2);
        String[] wrong = {"", "0", "0:a0,", "1:", "0:a2", "0:b0", "0:a0,a0"};
        for (String text : wrong) {
            Due.is("cast of " + text, cast(x, text), BallotPapers.NOT_POSSIBLE);
        }
        Due.is("ballots", x.count(3), 0);
        Due.is("states", x.count(4), 3);
        Due.is("blank", x.contestOf(0, 6), 0);
        Due.is("cast", cast(x, "0:a0"), 1);
        Due.is("states", x.count(4), 4);
    }

    /** More calls than are promised; the limit can't be reached by fewer. */
    private static void mostBallots() {
        BallotPapers x = Due.withNames(5, 1, 2);
        Due.written(x, "0:a1");
        for (int i = 0; i < 9999; i++) {
            x.cast();
        }
        Due.is("ballots", x.count(3), 9999);
        Due.is("one too many", x.cast(), BallotPapers.LIMIT_REACHED);
        votes(x, 0, 0, 9999);
        Due.is("ballots", x.count(3), 9999);
        Due.is("a fault as well", cast(x, "0:a2"), BallotPapers.NOT_POSSIBLE);
    }
}
