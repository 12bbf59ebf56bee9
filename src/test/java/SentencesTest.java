/** Every sentence of the document's Terms and promises, with a test of its own. */
public final class SentencesTest {
    private SentencesTest() {
    }

    public static void main(String[] args) throws Exception {
        Document.open();
        TextSentences.all();
        StandingSentences.all();
        OrderSentences.all();
        SearchSentences.all();
        LoudnessSentences.all();
        PaperSentences.all();
        Document.mustBeHeld();
        Checks.finish();
    }
}
