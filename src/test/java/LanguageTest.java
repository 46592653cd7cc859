import java.io.IOException;
import java.nio.file.Files;
import java.nio.file.Path;
import java.util.regex.Matcher;
import java.util.regex.Pattern;

/** The rules of LANGUAGE.md that can be seen from the text of the class alone. */
public final class LanguageTest {
    private static final String[] FORBIDDEN = {"\\bthrow\\b", "\\bthrows\\b", "\\btry\\b",
        "\\bcatch\\b", "\\bsynchronized\\b", "\\bassert\\b", "\\bimport\\b", "\\bpackage\\b",
        "->", "::", "Exact\\b", "\\bprotected\\b", "\\bObject\\b", "\\btoString\\b",
        "\\bhashCode\\b", "\\bstatic \\{", "\\bjava\\.", "\\bThread\\b", "\\bRandom\\b"};
    private static final int MOST_LINES_OF_A_METHOD = 60;

    public static void main(String[] args) throws IOException {
        String source = Files.readString(Path.of("src/main/java/BallotPapers.java"));
        for (int i = 0; i < source.length(); i++) {
            char sign = source.charAt(i);
            if (sign != '\n' && (sign < 32 || sign > 126)) {
                Due.is("sign " + i + " is plain", sign, ' ');
            }
        }
        String code = source.replaceAll("(?s)/\\*.*?\\*/", "").replaceAll("//[^\n]*", "");
        for (String word : FORBIDDEN) {
            Due.is("stands in the code: " + word,
                    Pattern.compile(word).matcher(code).find() ? 1 : 0, 0);
        }
        objectsAreMadeInConstructors(code);
        methodsAreShort(code);
        Due.end();
    }

    /** A run may make many calls; objects that they made would fill the room. */
    private static void objectsAreMadeInConstructors(String code) {
        Matcher member = Pattern.compile("(?m)^ {4}(?: {4})?(\\S[^;=\n]*) \\{$|\\bnew \\w+")
                .matcher(code);
        String last = "";
        while (member.find()) {
            if (member.group(1) != null) {
                last = member.group(1);
            } else {
                Due.is(member.group() + " stands in the constructor: " + last,
                        last.matches("(public )?[A-Z]\\w*\\(\\)") ? 1 : 0, 1);
            }
        }
    }

    private static void methodsAreShort(String code) {
        Matcher method = Pattern.compile("(?ms)^( {4}(?: {4})?)\\S[^;={}]*\\([^;={}]*\\) \\{$.*?^\\1\\}$")
                .matcher(code);
        int methods = 0;
        while (method.find()) {
            methods++;
            long lines = method.group().lines().count();
            Due.is("lines of " + method.group().lines().findFirst().orElse("") + ": " + lines,
                    lines > MOST_LINES_OF_A_METHOD ? 1 : 0, 0);
        }
        Due.is("methods were found", methods > 50 ? 1 : 0, 1);
    }
}
