/** Promise 9: nameOf. */
public final class NameOfTest {
    public static void main(String[] args) {
        numbersOfNames();
        papersOnWhichItIsFirst();
        seats();
        Due.end();
    }

    private static void numbersOfNames() {
        BallotPapers x = Due.withNames(5, 12, 20);
        Due.addContest(x, 5, 2, 1);
        Due.written(x, "0:a1,b0");
        x.cast();
        x.cast();
        Due.is("length", x.nameOf(0, 1, 0), 20);
        Due.is("length", x.nameOf(1, 0, 0), 1);
        Due.is("votes", x.nameOf(0, 0, 1), 0);
        Due.is("votes", x.nameOf(0, 1, 1), 2);
        Due.is("votes", x.nameOf(1, 0, 1), 2);
        int[][] wrong = {{-1, 0, 0}, {2, 0, 0}, {0, -1, 0}, {0, 2, 0}, {1, 1, 0}, {0, 0, -1},
            {0, 0, 4}, {Integer.MIN_VALUE, 0, 0}, {0, Integer.MAX_VALUE, 0},
            {0, 0, Integer.MIN_VALUE}};
        for (int[] w : wrong) {
            Due.is("nameOf(" + w[0] + ", " + w[1] + ", " + w[2] + ")",
                    x.nameOf(w[0], w[1], w[2]), BallotPapers.INVALID_ARGUMENT);
        }
    }

    private static void papersOnWhichItIsFirst() {
        BallotPapers x = Due.withNames(5, 1, 2, 3);
        x.set(5, 5);
        for (int version = 0; version < 5; version++) {
            x.papers(version, 1 << version);
        }
        due(x, 31, 0, 0);
        x.way(0, 1);
        due(x, 1 + 8, 2 + 16, 4);
        x.way(0, 2);
        due(x, 1 + 4 + 16, 0, 2 + 8);
        x.set(5, 2);
        due(x, 1, 0, 2);
        x.set(5, 5);
        due(x, 1, 0, 2);
    }

    private static void due(BallotPapers x, int... papers) {
        for (int name = 0; name < papers.length; name++) {
            Due.is("papers on which " + name + " is first", x.nameOf(0, name, 2), papers[name]);
        }
    }

    private static void seats() {
        BallotPapers x = new BallotPapers();
        Due.addContest(x, 5, 2, 1, 1, 1, 1);
        seated(x, 1, 1, 0, 0);
        vote(x, "0:a3");
        seated(x, 1, 0, 0, 1);
        vote(x, "0:a2");
        seated(x, 0, 0, 1, 1);
        vote(x, "0:a1");
        seated(x, 0, 1, 1, 0);
        vote(x, "0:a0,a3");
        seated(x, 1, 0, 0, 1);
        vote(x, "0:a1,a2");
        seated(x, 0, 1, 1, 0);

        // A name of another contest with more votes takes no seat here.
        Due.addContest(x, 5, 1);
        Due.is("a contest without names", x.nameOf(1, 0, 3), BallotPapers.INVALID_ARGUMENT);
        BallotPapers next = Due.withNames(5, 1, 1);
        Due.addContest(next, 5, 1, 1);
        vote(next, "0:b0");
        seated(next, 1, 0);

        BallotPapers few = new BallotPapers();
        Due.addContest(few, 5, 3, 1, 1);
        seated(few, 1, 1);
    }

    private static void vote(BallotPapers x, String ballot) {
        Due.written(x, ballot);
        x.cast();
    }

    private static void seated(BallotPapers x, int... seats) {
        for (int name = 0; name < seats.length; name++) {
            Due.is("seat of " + name, x.nameOf(0, name, 3), seats[name]);
        }
    }
}
