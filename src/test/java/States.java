/** States that tests begin with; each call makes another object in the same state. */
final class States {
    private States() {
    }

    /** Three contests, one of them without names, three versions, papers; no ballot yet. */
    static BallotPapers open() {
        BallotPapers x = new BallotPapers();
        Due.addContest(x, 20, 2, 12, 20, 5);
        Due.addContest(x, 9, 1);
        Due.addContest(x, 17, 1, 6, 18);
        x.set(1, 16);
        x.set(2, 8);
        x.set(4, 5);
        x.set(5, 3);
        x.papers(0, 10);
        x.papers(1, 20);
        x.papers(2, 5);
        x.way(0, 1);
        x.way(2, 2);
        Due.written(x, "1:a1,c0");
        return x;
    }

    /** The same with ballots: with votes, spoilt and blank. */
    static BallotPapers counted() {
        BallotPapers x = open();
        x.cast();
        Due.written(x, "0:a0,a1,a2");
        x.cast();
        Due.written(x, "2:a2,c0,c1");
        x.cast();
        Due.written(x, "2:a0,c1");
        return x;
    }

    /** All contests, names, versions, papers and characters that there may be. */
    static BallotPapers full() {
        BallotPapers x = new BallotPapers();
        for (int contest = 0; contest < 6; contest++) {
            Due.addContest(x, 20, 3, 20, 20, 20, 20, 20, 20, 20, 20);
        }
        x.set(5, 24);
        for (int version = 0; version < 24; version++) {
            x.papers(version, 9999);
        }
        x.way(5, 1);
        Due.typed(x, "0:a0,a1,a2,b0,b1,b2,c0,c1,c2,d0,d1,d2,e0");
        return x;
    }

    /** A contest of one seat with names of one line by the width 20, in columns of 24 lines. */
    static BallotPapers names(int many) {
        BallotPapers x = new BallotPapers();
        x.contest(20, 1);
        for (int name = 0; name < many; name++) {
            x.name(0, 1);
        }
        return x;
    }

    /**
     * Columns of 16 lines and the least width: a title of 8 takes one line, names of 5, 10, 15
     * and 20 take 1 to 4.
     */
    static BallotPapers narrow(int... lengths) {
        BallotPapers x = new BallotPapers();
        x.set(1, 16);
        x.set(2, 8);
        Due.addContest(x, 8, 1, lengths);
        return x;
    }
}
