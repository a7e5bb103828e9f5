import java.io.IOException;

/** Each sentence of the document that names a boundary case, with the calls on either side of the boundary. */
final class SentencesTest {
    public static void main(String[] args) throws IOException {
        RowSentences.tell();
        OperationSentences.tell();
        TextSentences.tell();
        LookingSentences.tell();
        Document document = new Document();
        Sentence.standIn(document);
        noneIsLeftOut(document);
        Due.finish("SentencesTest");
    }

    private static void noneIsLeftOut(Document document) {
        for (int promise = 1; promise <= Document.PROMISES; promise++) {
            for (String clause : document.clausesOf(promise)) {
                Due.holds("a test of promise " + promise + ", " + clause, Sentence.isTold(promise, clause));
            }
        }
        for (String clause : document.clausesOfTerms()) {
            Due.holds("a test of the terms, " + clause, Sentence.isTold(0, clause));
        }
    }
}
