import java.io.IOException;
import java.nio.file.Path;

/** Each sentence of the document's terms and promises has runs of its own, with the cases at the edges that it names. */
public final class EdgesTest {
    private static final Path DOCUMENT = Path.of("../shared/DOC.md");

    public static void main(String[] args) throws IOException {
        Runs runs = new Runs();
        Sentences sentences = new Sentences(runs);
        new EdgesOfTerms(sentences).all();
        new EdgesOfPromises(sentences).all();
        sentences.holdAgainst(DOCUMENT);
        runs.end();
    }
}
