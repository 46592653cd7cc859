/** Compares answers with those that are due, and ends a test. */
final class Due {
    private static int compared = 0;
    private static int wrong = 0;

    private Due() {
    }

    static void is(String call, long got, long want) {
        compared++;
        if (got != want) {
            wrong++;
            System.out.println(call + " answered " + got + ", due is " + want);
        }
    }

    /** Types a whole text, behind what is there. */
    static void typed(BallotPapers x, String text) {
        for (int i = 0; i < text.length(); i++) {
            x.type(text.charAt(i));
        }
    }

    /** Replaces the text. */
    static void written(BallotPapers x, String text) {
        x.clearText();
        typed(x, text);
    }

    /** A new object with one contest of one seat, with names of the lengths. */
    static BallotPapers withNames(int title, int... lengths) {
        BallotPapers x = new BallotPapers();
        addContest(x, title, 1, lengths);
        return x;
    }

    static int addContest(BallotPapers x, int title, int seats, int... lengths) {
        int contest = x.contest(title, seats);
        for (int length : lengths) {
            x.name(contest, length);
        }
        return contest;
    }

    static void end() {
        if (wrong != 0 || compared == 0) {
            System.out.println(wrong + " of " + compared + " answers are not as due");
            System.exit(1);
        }
    }
}
