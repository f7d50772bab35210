/** All tests that stand for a sentence of the document. */
public final class SentenceTest {
    public static void main(String[] args) {
        DraftSentences.check();
        TreeSentences.check();
        MatchSentences.check();
        ScriptSentences.check();
        ApplySentences.check();
        MergeSentences.check();
        HistorySentences.check();
        GeneralSentences.check();
        Sentences.end();
        Check.end();
    }
}
