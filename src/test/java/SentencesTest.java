import java.io.IOException;

/** Each sentence of the document has runs: ordinary calls, the last that is allowed, the first that is not. */
public final class SentencesTest {
    public static void main(String[] args) throws IOException {
        Due due = new Due("SentencesTest");
        Sentences document = new Sentences(due);
        SentencesOfTerms.all(document);
        SentencesOfOrder.all(document);
        SentencesOfRefusedCalls.all(document);
        SentencesOfChanges.all(document);
        SentencesOfQuestions.all(document);
        document.nothingIsLeft();
        due.close();
    }
}
