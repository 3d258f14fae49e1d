/**
 * The document sentence by sentence: each boundary that it names is tried on both sides, each test cites the words that
 * it holds against, and words that no test cites are a fault.
 */
public final class SentenceTest {
    public static void main(String[] args) {
        Sentences[] all = {new TextSentences(), new LawSentences(), new YearSentences(), new CastSentences(), new AskSentences(),
            new FateSentences(), new KeepSentences()};
        for (Sentences some : all) some.hold();
        Sentences.end();
    }
}
