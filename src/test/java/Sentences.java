import java.io.IOException;
import java.nio.file.Files;
import java.nio.file.Path;

/** Runs of calls under the words of the document that they test; words that do not stand there are wrong answers. */
final class Sentences {
    private final Due due;
    private final String document;

    Sentences(String test) throws IOException {
        due = new Due(test);
        document = Files.readString(Path.of(System.getProperty("twinlinks.document")));
    }

    void says(String words, String... runs) {
        due.same("the document says '" + words + "'", true, document.contains(words));
        for (int n = 0; n < runs.length; n++) {
            Script.run(due, "'" + words + "', run " + (n + 1), runs[n]);
        }
    }

    void close() {
        due.close();
    }
}
