import java.lang.reflect.Member;
import java.lang.reflect.Modifier;
import java.util.ArrayList;
import java.util.Arrays;
import java.util.List;
import java.util.TreeSet;

/** The public face: its members and no others, and the constants. */
public final class FaceTest {
    private static final String[] METHODS = {"contest", "name", "way", "papers", "set", "clear",
        "contestOf", "nameOf", "count", "papersOf", "stands", "lies", "markAt", "paper", "spread",
        "evenVersions", "bestWidth", "undo", "type", "clearText", "fault", "cast"};

    public static void main(String[] args) {
        Due.is("INVALID_ARGUMENT", BallotPapers.INVALID_ARGUMENT, -1);
        Due.is("NOT_POSSIBLE", BallotPapers.NOT_POSSIBLE, -2);
        Due.is("LIMIT_REACHED", BallotPapers.LIMIT_REACHED, -3);
        Due.is("NOT_FOUND", BallotPapers.NOT_FOUND, -4);

        List<String> want = new ArrayList<>(Arrays.asList(METHODS));
        want.addAll(Arrays.asList("INVALID_ARGUMENT", "NOT_POSSIBLE", "LIMIT_REACHED",
                "NOT_FOUND", "BallotPapers"));
        List<Member> members = new ArrayList<>();
        members.addAll(Arrays.asList(BallotPapers.class.getDeclaredMethods()));
        members.addAll(Arrays.asList(BallotPapers.class.getDeclaredFields()));
        members.addAll(Arrays.asList(BallotPapers.class.getDeclaredConstructors()));
        List<String> got = new ArrayList<>();
        for (Member member : members) {
            if (!Modifier.isPrivate(member.getModifiers())) {
                got.add(member.getName());
                Due.is(member + " is public", Modifier.isPublic(member.getModifiers()) ? 1 : 0, 1);
            }
        }
        Due.is("members that are not private: " + got, got.size(), want.size());
        Due.is("the same names", new TreeSet<>(got).equals(new TreeSet<>(want)) ? 1 : 0, 1);
        int modifiers = BallotPapers.class.getModifiers();
        Due.is("public", Modifier.isPublic(modifiers) ? 1 : 0, 1);
        Due.is("final", Modifier.isFinal(modifiers) ? 1 : 0, 1);
        Due.end();
    }
}
