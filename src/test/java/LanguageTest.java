import java.io.IOException;
import java.lang.reflect.Field;
import java.lang.reflect.Method;
import java.lang.reflect.Modifier;
import java.nio.file.Files;
import java.nio.file.Path;
import java.util.ArrayList;
import java.util.HashSet;
import java.util.List;
import java.util.Set;
import java.util.regex.Matcher;
import java.util.regex.Pattern;

/** The rules of LANGUAGE.md that can be seen from the text of the class alone. */
public final class LanguageTest {
    private static final String[] FORBIDDEN = {"\\bthrow\\b", "\\bthrows\\b", "\\btry\\b",
        "\\bcatch\\b", "\\bsynchronized\\b", "\\bassert\\b", "\\bimport\\b", "\\bpackage\\b",
        "->", "::", "Exact\\b", "\\bprotected\\b", "\\bObject\\b", "\\btoString\\b",
        "\\bhashCode\\b", "\\bstatic \\{", "\\bjava\\.", "\\bThread\\b", "\\bRandom\\b"};
    private static final int MOST_LINES_OF_A_METHOD = 60;
    private static final int MOST_PARAMETERS = 7;
    private static final int MOST_CLASSES = 12;
    private static final int MOST_FIELDS = 20;

    public static void main(String[] args) throws IOException {
        String source = Files.readString(Path.of("src/main/java/BallotPapers.java"));
        for (int i = 0; i < source.length(); i++) {
            char sign = source.charAt(i);
            if (sign != '\n' && (sign < 32 || sign > 126)) {
                Due.is("sign " + i + " is plain", sign, ' ');
            }
        }
        String code = source.replaceAll("(?s)/\\*.*?\\*/", "").replaceAll("//[^\n]*", "");
        for (String word : FORBIDDEN) {
            Due.is("stands in the code: " + word,
                    Pattern.compile(word).matcher(code).find() ? 1 : 0, 0);
        }
        objectsAreMadeInConstructors(code);
        methodsAreShort(code);
        membersAreFew();
        Due.end();
    }

    /** A run may make many calls; objects that they made would fill the room. */
    private static void objectsAreMadeInConstructors(String code) {
        Matcher member = Pattern.compile("(?m)^ {4}(?: {4})?(\\S[^;=\n]*) \\{$|\\bnew \\w+")
                .matcher(code);
        String last = "";
        while (member.find()) {
            if (member.group(1) != null) {
                last = member.group(1);
            } else {
                Due.is(member.group() + " stands in the constructor: " + last,
                        last.matches("(public )?[A-Z]\\w*\\(\\)") ? 1 : 0, 1);
            }
        }
    }

    private static void membersAreFew() {
        List<Class<?>> classes = new ArrayList<>(List.of(BallotPapers.class));
        classes.addAll(List.of(BallotPapers.class.getDeclaredClasses()));
        Due.is("classes are too many", classes.size() > MOST_CLASSES ? 1 : 0, 0);
        Set<String> names = new HashSet<>();
        for (Method method : BallotPapers.class.getMethods()) {
            names.add(method.getName());
        }
        for (Class<?> one : classes) {
            int fields = 0;
            for (Field field : one.getDeclaredFields()) {
                fields += Modifier.isStatic(field.getModifiers()) ? 0 : 1;
            }
            Due.is("fields are too many: " + one, fields > MOST_FIELDS ? 1 : 0, 0);
            for (Method method : one.getDeclaredMethods()) {
                Due.is("parameters are too many: " + method,
                        method.getParameterCount() > MOST_PARAMETERS ? 1 : 0, 0);
                boolean face = Modifier.isPublic(method.getModifiers());
                Due.is("bears the name of a public one: " + method,
                        !face && names.contains(method.getName()) ? 1 : 0, 0);
            }
        }
    }

    private static void methodsAreShort(String code) {
        String pattern = "(?ms)^( {4}(?: {4})?)\\S[^;={}]*\\([^;={}]*\\) \\{$.*?^\\1\\}$";
        Matcher method = Pattern.compile(pattern).matcher(code);
        int methods = 0;
        while (method.find()) {
            methods++;
            long lines = method.group().lines().count();
            Due.is("lines of " + method.group().lines().findFirst().orElse("") + ": " + lines,
                    lines > MOST_LINES_OF_A_METHOD ? 1 : 0, 0);
        }
        Due.is("methods were found", methods > 50 ? 1 : 0, 1);
    }
}
