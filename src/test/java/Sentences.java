import java.io.IOException;
import java.nio.file.Files;
import java.nio.file.Path;
import java.util.ArrayList;
import java.util.List;
import java.util.regex.Matcher;
import java.util.regex.Pattern;

/**
 * Runs of calls under the words of the document that they test. Words that do not stand there are wrong, and so is what
 * stands there without a run.
 */
final class Sentences {
    /** What other tests look at (headings and signatures: FaceTest), or none can (what is not promised). */
    private static final Pattern ELSEWHERE = Pattern.compile(
        "(?m)(?s:^## Not promised$.*)|^#.*$|(?s:^```java$.*?^```$)|^`[^`]*`:");
    private static final Pattern WORDS = Pattern.compile("\\w");

    private final Due due;
    private final String document;
    private final boolean[] tested;

    Sentences(Due due) throws IOException {
        this.due = due;
        document = Files.readString(Path.of(System.getProperty("twinlinks.document")));
        tested = new boolean[document.length()];
    }

    void says(String words, String... runs) {
        due.same("the document says '" + words + "'", true, document.contains(words));
        due.same("'" + words + "' has a run", true, runs.length > 0);
        for (int n = 0; n < runs.length; n++) {
            Script.run(due, "'" + words + "', run " + (n + 1), runs[n]);
        }
        for (int at = document.indexOf(words); at >= 0; at = document.indexOf(words, at + 1)) {
            markTested(at, at + words.length());
        }
    }

    void nothingIsLeft() {
        Matcher elsewhere = ELSEWHERE.matcher(document);
        while (elsewhere.find()) {
            markTested(elsewhere.start(), elsewhere.end());
        }
        due.same("words of the document without a run", List.of(), left());
    }

    private void markTested(int first, int above) {
        for (int at = first; at < above; at++) {
            tested[at] = true;
        }
    }

    private List<String> left() {
        List<String> left = new ArrayList<>();
        int first = 0;
        for (int at = 0; at <= tested.length; at++) {
            if (at == tested.length || tested[at]) {
                String words = document.substring(first, at).strip();
                if (WORDS.matcher(words).find()) {
                    left.add(words);
                }
                first = at + 1;
            }
        }
        return left;
    }
}
