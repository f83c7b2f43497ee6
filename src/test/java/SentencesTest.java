/** Each sentence of the document has a test of its own, from its first section to its last promise. */
public final class SentencesTest {
    public static void main(String[] args) {
        Sentences sentences = new Sentences();
        TermsSentences.test(sentences);
        ContentsSentences.test(sentences);
        JobsSentences.test(sentences);
        PrintingSentences.test(sentences);
        BindingSentences.test(sentences);
        sentences.dueAllOf(Sentences.DOCUMENT);
        Check.finish("SentencesTest");
    }
}
