/** All promises and Terms: a test for each sentence of the document. */
public final class SentencesTest {
    public static void main(String[] args) {
        Sentences all = new Sentences();
        LineSentences.tell(all);
        FormSentences.tell(all);
        ChoosingSentences.tell(all);
        ConvertingSentences.tell(all);
        RefusalSentences.tell(all);
        PromiseSentences.tell(all);
        AnswerSentences.tell(all);
        all.end("SentencesTest");
    }
}
