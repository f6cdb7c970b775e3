import java.io.IOException;

/** Every sentence of the document that a call can keep or break has a run of its own; none is left out. */
public final class SentencesTest {
    public static void main(String[] args) throws IOException {
        Checks checks = new Checks();
        Document document = new Document();
        new TermsSentences(checks, document).all();
        new AheadSentences(checks, document).all();
        new WritersSentences(checks, document).all();
        new ReadersSentences(checks, document).all();
        checks.part("sentences of the document without a run");
        for (String section : document.sections()) {
            String left = document.leftOf(section);
            checks.due(section + ": " + left, left.isEmpty(), true);
        }
        checks.end();
    }
}
