/** Promise 10: count. */
public final class CountTest {
    public static void main(String[] args) {
        BallotPapers x = Due.withNames(5, 1, 2, 3);
        Due.addContest(x, 5, 1);
        Due.addContest(x, 5, 1, 4, 5);
        x.set(5, 3);
        x.papers(0, 100);
        x.papers(2, 20);
        Due.written(x, "2:a0");
        x.cast();
        x.cast();
        int[] want = {3, 5, 120, 2, 4, 4};
        for (int what = 0; what < want.length; what++) {
            Due.is("count(" + what + ")", x.count(what), want[what]);
        }
        x.set(0, 3);
        x.set(1, 30);
        x.set(2, 25);
        x.set(3, 2);
        x.set(4, 9);
        int[] settings = {3, 30, 25, 2, 9, 3};
        for (int i = 0; i < settings.length; i++) {
            Due.is("count(" + (10 + i) + ")", x.count(10 + i), settings[i]);
        }
        int[] wrong = {-1, 6, 7, 8, 9, 16, 17, Integer.MIN_VALUE, Integer.MIN_VALUE + 10,
            Integer.MAX_VALUE};
        for (int what : wrong) {
            Due.is("count(" + what + ")", x.count(what), BallotPapers.INVALID_ARGUMENT);
        }
        Due.end();
    }
}
