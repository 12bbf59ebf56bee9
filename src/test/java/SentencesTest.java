/** Every sentence of the document's Terms and promises, with a test of its own. */
public final class SentencesTest {
    private SentencesTest() {
    }

    public static void main(String[] args) throws Exception {
        Document.open();
        all();
        for (String[] ahead : Checks.RINGS_AHEAD) {
            Checks.withRingAhead(ahead);
            all();
        }
        Document.mustBeHeld();
        Checks.finish();
    }

    private static void all() {
        TextSentences.all();
        StandingSentences.all();
        OrderSentences.all();
        SearchSentences.all();
        LoudnessSentences.all();
        PaperSentences.all();
    }
}
