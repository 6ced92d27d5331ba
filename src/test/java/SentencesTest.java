/** Each sentence of the document, with what it says at the edges: nothing, all, the least, the greatest, one beyond. */
public final class SentencesTest {
    private SentencesTest() {
    }

    public static void main(String[] args) throws Exception {
        Sentences s = Sentences.ofDocument();
        new TextSentences(s).all();
        new PlaceSentences(s).all();
        new PlanSentences(s).all();
        new ActSentences(s).all();
        s.close("SentencesTest");
    }
}
