/** All promises: long runs of calls, each answer compared with that of a plain model. */
public final class ManyRunsTest {
    private static final int RUNS = 5000;
    /** Calls that are promised; a run ends when the next step might be one too many. */
    private static final int CALLS = 512;
    private static final int CALLS_OF_A_STEP = 50;
    private static final int[] FAR = {Integer.MIN_VALUE, Integer.MIN_VALUE + 10, -1000, 1000,
        1 << 30, Integer.MAX_VALUE - 1, Integer.MAX_VALUE};

    private static final int[] LEAST = {1, 16, 8, 1, 4, 1};
    private static final int[] MOST = {4, 60, 40, 3, 30, 24};

    private long seed;
    private BallotPapers x;
    private Model model;
    private String call;
    private int got;
    private int want;
    private int calls;

    public static void main(String[] args) {
        int[] answers = new int[5];
        for (int run = 0; run < RUNS; run++) {
            new ManyRunsTest().run(run, answers);
        }
        // The runs are of use only if each kind of answer is frequent.
        for (int kind = 0; kind < answers.length; kind++) {
            Due.is("answers of the kind " + kind + " are frequent",
                    answers[kind] > RUNS ? 1 : 0, 1);
        }
        Due.end();
    }

    private void run(int run, int[] answers) {
        seed = run;
        x = new BallotPapers();
        model = new Model();
        for (int i = 0; calls <= CALLS - CALLS_OF_A_STEP; i++) {
            // The first calls mostly build, so that there are papers to ask about.
            if (i < 40 && below(4) != 0) {
                build();
            } else {
                any();
            }
            Due.is("run " + run + ", call " + i + ": " + call, got, want);
            answers[got >= 0 ? 0 : -got]++;
        }
    }

    private int below(int bound) {
        seed = seed * 6364136223846793005L + 1442695040888963407L;
        return (int) ((seed >>> 33) % bound);
    }

    /** A number of the range, now and then one beside it, seldom one far off. */
    private int of(int least, int most) {
        int kind = below(60);
        if (kind == 0) {
            return FAR[below(FAR.length)];
        }
        if (kind == 1) {
            return least - 1;
        }
        if (kind == 2) {
            return most + 1;
        }
        return least + below(Math.max(1, most - least + 1));
    }

    private int someContest() {
        return of(0, model.count(0) - 1);
    }

    private int someVersion() {
        return of(0, model.count(15) - 1);
    }

    private void told(String name, int answer, int due, int... arguments) {
        StringBuilder line = new StringBuilder(name);
        for (int argument : arguments) {
            line.append(' ').append(argument);
        }
        calls++;
        call = line.toString();
        got = answer;
        want = due;
    }

    private void build() {
        int a;
        int b;
        switch (below(8)) {
            case 0:
                a = of(1, 20);
                b = of(1, 3);
                told("contest", x.contest(a, b), model.contest(a, b), a, b);
                break;
            case 1:
                a = someContest();
                b = of(0, 2);
                told("way", x.way(a, b), model.way(a, b), a, b);
                break;
            case 2:
                a = someVersion();
                b = of(0, 9999);
                told("papers", x.papers(a, b), model.papers(a, b), a, b);
                break;
            case 3:
                setting();
                break;
            default:
                a = someContest();
                b = of(1, 20);
                told("name", x.name(a, b), model.name(a, b), a, b);
                break;
        }
    }

    private void setting() {
        int what = of(0, 5);
        int value = what >= 0 && what < 6 ? of(LEAST[what], MOST[what]) : of(1, 20);
        // Low columns and folds that are near one another are where it is hard.
        if (what == 1 && below(2) == 0) {
            value = of(16, 20);
        }
        if (what == 4 && below(2) == 0) {
            value = below(2) == 0 ? 0 : of(4, 7);
        }
        told("set", x.set(what, value), model.set(what, value), what, value);
    }

    private void any() {
        switch (below(24)) {
            case 0: case 1: case 2:
                build();
                break;
            case 3: case 4: case 5:
                askOfContests();
                break;
            case 6: case 7: case 8: case 9: case 10:
                askOfPlaces();
                break;
            case 11: case 12:
                askWhatWouldBe();
                break;
            case 13:
                if (below(2) == 0) {
                    told("undo", x.undo(), model.undo());
                } else if (below(4) == 0) {
                    told("clear", x.clear(), model.clear());
                } else {
                    askOfContests();
                }
                break;
            case 14: case 15: case 16: case 17:
                write();
                int reason = of(0, 1);
                told("fault", x.fault(reason), model.fault(reason), reason);
                break;
            case 18:
                told("clearText", x.clearText(), model.clearText());
                break;
            case 19: case 20:
                int sign = of(32, 126);
                told("type", x.type(sign), model.type(sign), sign);
                break;
            default:
                if (below(3) == 0) {
                    write();
                }
                told("cast", x.cast(), model.cast());
                break;
        }
    }

    private void askOfContests() {
        int a = someContest();
        int b;
        int c;
        switch (below(4)) {
            case 0:
                b = of(0, 6);
                told("contestOf", x.contestOf(a, b), model.contestOf(a, b), a, b);
                break;
            case 1:
                b = of(0, model.contestOf(a, 3) - 1);
                c = of(0, 3);
                told("nameOf", x.nameOf(a, b, c), model.nameOf(a, b, c), a, b, c);
                break;
            case 2:
                a = of(0, 15);
                told("count", x.count(a), model.count(a), a);
                break;
            default:
                a = someVersion();
                told("papersOf", x.papersOf(a), model.papersOf(a), a);
                break;
        }
    }

    private void askOfPlaces() {
        int v = someVersion();
        int a = someContest();
        int b = of(0, model.contestOf(a, 3) - 1);
        int c;
        switch (below(5)) {
            case 0:
                told("stands", x.stands(v, a, b), model.stands(v, a, b), v, a, b);
                break;
            case 1: case 2:
                c = of(0, 4);
                told("lies", x.lies(v, a, b, c), model.lies(v, a, b, c), v, a, b, c);
                break;
            case 3:
                markAt(v, a, b);
                break;
            default:
                a = of(0, 4);
                told("paper", x.paper(v, a), model.paper(v, a), v, a);
                break;
        }
    }

    private void markAt(int v, int contest, int name) {
        int page = of(0, 3);
        int column = of(0, model.count(10) - 1);
        int line = of(0, model.count(11) - 1);
        int what = of(0, 1);
        // A line taken at random seldom has a mark.
        if (below(2) == 0 && model.lies(v, contest, name, 0) >= 0) {
            page = model.lies(v, contest, name, 0);
            column = model.lies(v, contest, name, 1);
            line = model.lies(v, contest, name, 2);
        }
        told("markAt", x.markAt(v, page, column, line, what),
                model.markAt(v, page, column, line, what), v, page, column, line, what);
    }

    private void askWhatWouldBe() {
        int a;
        switch (below(3)) {
            case 0:
                a = someContest();
                told("spread", x.spread(a), model.spread(a), a);
                break;
            case 1:
                told("evenVersions", x.evenVersions(), model.evenVersions());
                break;
            default:
                a = of(0, 1);
                told("bestWidth", x.bestWidth(a), model.bestWidth(a), a);
                break;
        }
    }

    /** Writes a ballot anew, mostly without a fault. */
    private void write() {
        StringBuilder ballot = new StringBuilder();
        int version = below(10) == 0 ? below(30) : below(model.count(15));
        ballot.append(version).append(':');
        int marks = below(below(6) == 0 ? 14 : 5);
        for (int mark = 0; mark < marks; mark++) {
            int contest = below(Math.max(1, model.count(0)));
            int names = Math.max(1, model.contestOf(contest, 3));
            int place = below(40) == 0 ? below(10) : below(names);
            ballot.append(mark == 0 ? "" : ",").append((char) ('a' + contest)).append(place);
        }
        if (below(8) == 0) {
            ballot.setCharAt(below(ballot.length()), "0129:,afgA /".charAt(below(12)));
        }
        if (below(8) == 0) {
            ballot.setLength(below(ballot.length()));
        }
        calls++;
        x.clearText();
        model.clearText();
        for (int i = 0; i < ballot.length(); i++) {
            calls++;
            x.type(ballot.charAt(i));
            model.type(ballot.charAt(i));
        }
    }
}
