import java.io.IOException;

/** Each sentence of the document, with a test of its own at its boundaries; none may be without one. */
public final class SentenceTest {
    private SentenceTest() {
    }

    public static void main(String[] args) throws IOException {
        Doc.load();
        WholeSentences.run();
        TermsSentences.run();
        RuleSentences.run();
        TextSentences.run();
        SumSentences.run();
        SearchSentences.run();
        Doc.finish();
        Check.finish("SentenceTest");
    }
}
