import java.util.ArrayList;
import java.util.List;
import java.util.function.Supplier;

/**
 * All that can be asked of a state, what undo brings back behind it among it. A state is given
 * as something that makes objects in it: each group of questions has an object of its own, since
 * some of them change it, and since 512 calls are all that is promised.
 */
final class Answers {
    private static final int STATES = 4;

    private final Supplier<BallotPapers> made;
    private final List<String> answers = new ArrayList<>();

    private Answers(Supplier<BallotPapers> made) {
        this.made = made;
    }

    static List<String> of(Supplier<BallotPapers> made) {
        Answers all = new Answers(made);
        all.numbers(made.get());
        all.contests(made.get());
        int versions = made.get().count(15);
        for (int version = 0; version < versions; version++) {
            all.places(made.get(), version);
        }
        all.whatWouldBe(made.get());
        all.text();
        all.history();
        return all.answers;
    }

    private void note(String call, int answer) {
        answers.add(call + " = " + answer);
    }

    private void numbers(BallotPapers x) {
        for (int what = 0; what <= 15; what++) {
            note("count(" + what + ")", x.count(what));
        }
        for (int version = 0; version <= x.count(15); version++) {
            note("papersOf(" + version + ")", x.papersOf(version));
        }
    }

    private void contests(BallotPapers x) {
        for (int contest = 0; contest < x.count(0); contest++) {
            for (int what = 0; what <= 6; what++) {
                note("contestOf(" + contest + ", " + what + ")", x.contestOf(contest, what));
            }
            int names = x.contestOf(contest, 3);
            for (int name = 0; name < names; name++) {
                for (int what = 0; what <= 3; what++) {
                    note("nameOf(" + contest + ", " + name + ", " + what + ")",
                            x.nameOf(contest, name, what));
                }
            }
        }
    }

    private void places(BallotPapers x, int version) {
        for (int what = 0; what <= 4; what++) {
            note("paper(" + version + ", " + what + ")", x.paper(version, what));
        }
        for (int contest = 0; contest < x.count(0); contest++) {
            int names = x.contestOf(contest, 3);
            for (int name = 0; name < names; name++) {
                for (int what = 0; what <= 4; what++) {
                    note("lies(" + version + ", " + contest + ", " + name + ", " + what + ")",
                            x.lies(version, contest, name, what));
                }
            }
        }
    }

    private void whatWouldBe(BallotPapers x) {
        for (int contest = 0; contest < x.count(0); contest++) {
            note("spread(" + contest + ")", x.spread(contest));
        }
        note("evenVersions()", x.evenVersions());
        note("bestWidth(0)", x.bestWidth(0));
        note("bestWidth(1)", x.bestWidth(1));
    }

    private void text() {
        BallotPapers x = made.get();
        note("fault(0)", x.fault(0));
        note("fault(1)", x.fault(1));
        note("type(',')", x.type(','));
        note("fault(0) behind ','", x.fault(0));
        note("clearText()", x.clearText());
        BallotPapers counted = made.get();
        note("cast()", counted.cast());
        contests(counted);
    }

    private void history() {
        for (int depth = 1; depth <= STATES + 1; depth++) {
            BallotPapers x = made.get();
            for (int i = 0; i < depth; i++) {
                note("undo()", x.undo());
            }
            numbers(x);
            contests(x);
        }
    }
}
