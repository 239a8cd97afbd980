import java.io.IOException;

/** Each sentence of the document that names a boundary, with a test of its own; none may be without one. */
public final class SentenceTest {
    private SentenceTest() {
    }

    public static void main(String[] args) throws IOException {
        Doc.load();
        TermsSentences.run();
        RuleSentences.run();
        TextSentences.run();
        SumSentences.run();
        SearchSentences.run();
        Doc.finish();
        Check.finish("SentenceTest");
    }
}
