import java.util.List;

/** Compares answers with those that are due, and ends a test. */
final class Due {
    private static int compared = 0;
    private static int wrong = 0;
    private static String about = "";

    private Due() {
    }

    static void is(String call, long got, long want) {
        compared++;
        if (got != want) {
            fails(call + " answered " + got + ", due is " + want);
        }
    }

    /** Two lists of answers, "call = answer" each; the first one that differs is told. */
    static void same(String what, List<String> got, List<String> want) {
        compared++;
        for (int i = 0; i < Math.max(got.size(), want.size()); i++) {
            String one = i < got.size() ? got.get(i) : "nothing more";
            String other = i < want.size() ? want.get(i) : "nothing more";
            if (!one.equals(other)) {
                fails(what + ": " + one + ", due is " + other);
                return;
            }
        }
    }

    static void fails(String why) {
        wrong++;
        System.out.println(about + why);
    }

    /** What the next comparisons are about; it is told ahead of those that fail. */
    static void about(String words) {
        about = words;
    }

    static int compared() {
        return compared;
    }

    static int wrong() {
        return wrong;
    }

    /** Types a whole text, behind what is there. */
    static void typed(BallotPapers x, String text) {
        for (int i = 0; i < text.length(); i++) {
            x.type(text.charAt(i));
        }
    }

    /** Replaces the text. */
    static void written(BallotPapers x, String text) {
        x.clearText();
        typed(x, text);
    }

    /** A new object with one contest of one seat, with names of the lengths. */
    static BallotPapers withNames(int title, int... lengths) {
        BallotPapers x = new BallotPapers();
        addContest(x, title, 1, lengths);
        return x;
    }

    static int addContest(BallotPapers x, int title, int seats, int... lengths) {
        int contest = x.contest(title, seats);
        for (int length : lengths) {
            x.name(contest, length);
        }
        return contest;
    }

    static void end() {
        if (wrong != 0 || compared == 0) {
            System.out.println(wrong + " of " + compared + " answers are not as due");
            System.exit(1);
        }
    }
}
