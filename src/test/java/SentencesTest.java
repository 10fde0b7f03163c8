/** All promises and terms: each sentence of the document has a test that names it. */
final class SentencesTest {
    public static void main(String[] args) {
        TermsSentences.all();
        TextSentences.all();
        InputSentences.all();
        NumberSentences.all();
        ValueSentences.all();
        PairSentences.all();
        OrderSentences.all();
        ChangeSentences.all();
        KeptSentences.all();
        Holds.finish("SentencesTest");
    }
}
