/** Promise 22: fault. */
public final class FaultTest {
    public static void main(String[] args) {
        String[] right = {"0:", "9:", "10:", "11:", "0:a0", "0:a2,c7", "11:c0,a0,c1,a1",
            "0:c0,c1,c2,c3,c4,c5,c6,c7,a0,a1,a2"};
        for (String text : right) {
            none(ready(), text);
        }
        // 1: a character that cannot stand at its place, or the end where it cannot be.
        due(ready(), "", 0, 1);
        due(ready(), ":", 0, 1);
        due(ready(), "a", 0, 1);
        due(ready(), " 0:", 0, 1);
        due(ready(), "-1:", 0, 1);
        due(ready(), "0", 1, 1);
        due(ready(), "1", 1, 1);
        due(ready(), "11", 2, 1);
        due(ready(), "00:", 1, 1);
        due(ready(), "01:", 1, 1);
        due(ready(), "123:", 2, 1);
        due(ready(), "1a0", 1, 1);
        due(ready(), "12,", 2, 1);
        due(ready(), "1;", 1, 1);
        due(ready(), "0/", 1, 1);
        due(ready(), "0::", 2, 1);
        due(ready(), "0:,", 2, 1);
        due(ready(), "0: ", 2, 1);
        due(ready(), "0:g0", 2, 1);
        due(ready(), "0:A0", 2, 1);
        due(ready(), "0:`0", 2, 1);
        due(ready(), "0:a", 3, 1);
        due(ready(), "0:a:", 3, 1);
        due(ready(), "0:a/", 3, 1);
        due(ready(), "0:aa", 3, 1);
        due(ready(), "0:a10", 4, 1);
        due(ready(), "0:a1c0", 4, 1);
        due(ready(), "0:a1,", 5, 1);
        due(ready(), "0:a1,,", 5, 1);
        due(ready(), "0:a1,0", 5, 1);
        due(ready(), "10:a1,c", 7, 1);
        due(ready(), "10:a1,c0 ", 8, 1);
        // It comes ahead of the others, wherever it is.
        due(ready(), "99:f9,f9!", 8, 1);
        due(ready(), "0:a0,a0,", 8, 1);
        // 2: a version that there is not.
        due(ready(), "12:", 0, 2);
        due(ready(), "99:", 0, 2);
        due(ready(), "12:f9,f9", 0, 2);
        // 3: a contest or name that there is not.
        due(ready(), "0:a3", 2, 3);
        due(ready(), "0:a9", 2, 3);
        due(ready(), "0:b0", 2, 3);
        due(ready(), "0:c8", 2, 3);
        due(ready(), "0:d0", 2, 3);
        due(ready(), "0:f0", 2, 3);
        due(ready(), "10:a0,f0", 6, 3);
        due(ready(), "0:a3,a3", 2, 3);
        due(ready(), "0:a0,a3,a0", 5, 3);
        // 4: a mark that stands ahead of it already.
        due(ready(), "0:a0,a0", 5, 4);
        due(ready(), "0:a0,c0,a1,c0", 11, 4);
        due(ready(), "10:c7,c7,a3", 6, 4);
        due(ready(), "0:a0,c0,a0,a3", 8, 4);
        none(ready(), "0:a0,c0");
        none(ready(), "0:a0,a1");
        // A text of 40 characters: 13 marks behind a version of two digits leave one over.
        due(ready(), "10:c0,c1,c2,c3,c4,c5,c6,c7,a0,a1,a2,c0,c", 40, 1);
        due(ready(), "0:c0,c1,c2,c3,c4,c5,c6,c7,a0,a1,a2,c0,f9", 35, 4);
        due(ready(), "0:c0,c1,c2,c3,c4,c5,c6,c7,a0,a1,a2,f9,c0", 35, 3);
        due(ready(), "0:c0,c1,c2,c3,c4,c5,c6,c7,a0,a1,a2,d0 ", 37, 1);

        whatChangesAFault();
        BallotPapers x = ready();
        int[] wrong = {-1, 2, Integer.MIN_VALUE, Integer.MAX_VALUE};
        for (int what : wrong) {
            Due.is("fault(" + what + ")", x.fault(what), BallotPapers.INVALID_ARGUMENT);
        }
        Due.written(x, "0:");
        Due.is("fault(2) without a fault", x.fault(2), BallotPapers.INVALID_ARGUMENT);
        Due.end();
    }

    private static void whatChangesAFault() {
        BallotPapers x = new BallotPapers();
        due(x, "1:a0", 0, 2);
        x.set(5, 2);
        due(x, "1:a0", 2, 3);
        x.contest(5, 1);
        due(x, "1:a0", 2, 3);
        x.name(0, 5);
        none(x, "1:a0");
        x.undo();
        Due.is("place after undo", x.fault(0), 2);
        Due.is("reason after undo", x.fault(1), 3);
    }

    /** Contests of 3, no and 8 names, and 12 versions. */
    private static BallotPapers ready() {
        BallotPapers x = new BallotPapers();
        Due.addContest(x, 5, 1, 1, 2, 3);
        Due.addContest(x, 5, 1);
        Due.addContest(x, 5, 1, 1, 2, 3, 4, 5, 6, 7, 8);
        x.set(5, 12);
        return x;
    }

    private static void due(BallotPapers x, String text, int place, int reason) {
        Due.written(x, text);
        Due.is("place of the fault of " + text, x.fault(0), place);
        Due.is("reason of the fault of " + text, x.fault(1), reason);
    }

    private static void none(BallotPapers x, String text) {
        due(x, text, BallotPapers.NOT_FOUND, BallotPapers.NOT_FOUND);
    }
}
