import java.io.IOException;

/** Each sentence of the document's terms and promises, in its words, with a test of its own; edges above all. */
public final class SentenceTest {
    public static void main(String[] args) throws IOException {
        Sentences sentences = new Sentences();
        SentencePart[] parts = {new TextSentences(sentences), new PlanSentences(sentences), new WaySentences(sentences),
            new PushSentences(sentences)};
        for (SentencePart part : parts) {
            part.run();
        }
        sentences.end();
    }
}
