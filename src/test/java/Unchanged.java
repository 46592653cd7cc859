import java.util.List;
import java.util.function.Supplier;
import java.util.function.ToIntFunction;

/** A state, and calls in it that change nothing: those that are refused, and questions. */
final class Unchanged {
    private final Supplier<BallotPapers> made;
    private final List<String> before;

    Unchanged(Supplier<BallotPapers> made) {
        this.made = made;
        this.before = Answers.of(made);
    }

    void by(String call, int due, ToIntFunction<BallotPapers> called) {
        List<String> after = Answers.of(() -> {
            BallotPapers x = made.get();
            Due.is(call, called.applyAsInt(x), due);
            return x;
        });
        Due.same("behind " + call, after, before);
    }

    /** In the text of the call "#" stands for the value. */
    void byEach(String call, int due, int[] values, Call called) {
        for (int value : values) {
            by(call.replace("#", "" + value), due, x -> called.with(x, value));
        }
    }

    /** A call with one argument of all that is looked at. */
    interface Call {
        int with(BallotPapers x, int value);
    }
}
