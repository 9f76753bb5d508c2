import java.io.IOException;
import java.nio.file.Path;

/**
 * For each sentence of the document a test of its own: if it names a boundary, at the boundary, just inside, just
 * outside. Run from the project's root, where ../shared/DOC.md is found.
 */
public final class BoundaryTest {
    private BoundaryTest() {
    }

    public static void main(String[] args) throws IOException {
        Sentences sentences = new Sentences(Path.of("../shared/DOC.md"));
        TapeSentences.test(sentences);
        ShopSentences.test(sentences);
        FaultSentences.test(sentences);
        GrammarSentences.test(sentences);
        FormulaSentences.test(sentences);
        ToldSentences.test(sentences);
        ReadingSentences.test(sentences);
        LineSentences.test(sentences);
        WornSentences.test(sentences);
        ActSentences.test(sentences);
        QuestionSentences.test(sentences);
        ImageSentences.test(sentences);
        sentences.nothingIsLeft();
        Bench.finish();
    }
}
