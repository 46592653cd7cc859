import java.util.ArrayList;
import java.util.LinkedHashMap;
import java.util.List;
import java.util.Map;
import java.util.function.IntUnaryOperator;

/** Tests of sentences of the document; each is named by its section and its words. */
final class Edge {
    private static final Map<String, List<String>> QUOTES = new LinkedHashMap<>();

    private Edge() {
    }

    static void of(String section, String words, Runnable test) {
        List<String> quotes = QUOTES.computeIfAbsent(section, s -> new ArrayList<>());
        String name = section + ", \"" + words + "\"";
        Due.about(name + ": ");
        int compared = Due.compared();
        int wrong = Due.wrong();
        if (quotes.contains(words)) {
            Due.fails("the sentence has two tests");
        }
        quotes.add(words);
        try {
            test.run();
        } catch (RuntimeException | Error thrown) {
            Due.fails("threw " + thrown);
        }
        if (Due.compared() == compared) {
            Due.fails("nothing was compared");
        }
        Due.about("");
        System.out.println((Due.wrong() == wrong ? "holds: " : "FAILS: ") + name);
    }

    static Map<String, List<String>> quotes() {
        return QUOTES;
    }

    /**
     * Each value of a range is answered as due, and each one outside it is refused. In the text
     * of the call "#" stands for the value.
     */
    static void range(String call, int least, int most, IntUnaryOperator answer,
            IntUnaryOperator due) {
        for (int value = least; value <= most; value++) {
            Due.is(call.replace("#", "" + value), answer.applyAsInt(value),
                    due.applyAsInt(value));
        }
        for (int value : outside(least, most)) {
            Due.is(call.replace("#", "" + value), answer.applyAsInt(value),
                    BallotPapers.INVALID_ARGUMENT);
        }
    }

    /** Values beside a range, and far ones: some of them would be in it if they wrapped round. */
    static int[] outside(int least, int most) {
        List<Integer> values = new ArrayList<>();
        int[] beside = {least - 1, most + 1, least - 2, most + 2, -1, -least, -most};
        for (int value : beside) {
            values.add(value);
        }
        for (int bit = 8; bit < 32; bit++) {
            if (bit == 8 || bit == 16 || bit >= 28) {
                values.add((1 << bit) + least);
                values.add(-(1 << bit) + most);
            }
        }
        values.add(Integer.MIN_VALUE);
        values.add(Integer.MAX_VALUE);
        return values.stream().mapToInt(i -> i).distinct()
                .filter(i -> i < least || i > most).toArray();
    }
}
