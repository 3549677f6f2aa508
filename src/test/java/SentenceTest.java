import java.io.IOException;

/** A test for every sentence of the document's Terms and Promises. */
final class SentenceTest {
    public static void main(String[] args) throws IOException {
        TermSentences.run();
        CallSentences.run();
        QuerySentences.run();
        Document.compareQuotes();
        Check.end("SentenceTest");
    }
}
