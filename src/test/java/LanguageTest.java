import java.io.IOException;
import java.nio.file.Files;
import java.nio.file.Path;
import java.util.regex.Matcher;
import java.util.regex.Pattern;

/** What a look at the text can tell of the rules of LANGUAGE.md: what the program must not hold, it does not hold. */
public final class LanguageTest {
    private static final String[] NOT_THERE = {
        "->", "::", "\\btry\\b", "\\bcatch\\b", "\\bfinally\\b", "\\bsynchronized\\b", "\\bassert\\b", "\\bnative\\b",
        "\\bpackage\\b", "\\bprotected\\b", "Exact\\(", "\\bdouble\\b", "\\bfloat\\b", "\\bstatic \\{", "\\.equals\\(",
        "\\bhashCode\\b", "\\btoString\\b", "\\bgetMessage\\b", "\\bextends\\b", "\\bThread\\b", "\\bRandom\\b",
        "\\bwhile\\b", "\\bvar\\b", "\\bObject\\b", "System\\.(?!arraycopy\\b)",
    };
    private static final String MAY_BE_THROWN = "IllegalStateException|IllegalArgumentException"
        + "|IndexOutOfBoundsException|UnsupportedOperationException|NoSuchElementException|ClassCastException";

    public static void main(String[] args) throws IOException {
        Due due = new Due("LanguageTest");
        String text = Files.readString(Path.of(System.getProperty("twinlinks.source")));
        String code = text.replaceAll("(?s)/\\*.*?\\*/", "").replaceAll("//.*", "");
        for (String each : NOT_THERE) {
            due.same("times that " + each + " is there", 0, times(each, code));
        }
        due.same("imports", 1, times("(?m)^import ", code));
        due.same("the import", 1, times("import java\\.util\\.NoSuchElementException;", code));
        due.same("throws with a written text", times("\\bthrow\\b", code),
            times("throw new (" + MAY_BE_THROWN + ")\\(\"[^\"]*\"\\);", code));
        due.same("classes, at most twelve", true, times("\\bclass\\b", code) <= 12);
        due.same("characters below 128", true, text.chars().allMatch(c -> c < 128));
        due.close();
    }

    private static int times(String pattern, String code) {
        Matcher matcher = Pattern.compile(pattern).matcher(code);
        int times = 0;
        while (matcher.find()) {
            times++;
        }
        return times;
    }
}
