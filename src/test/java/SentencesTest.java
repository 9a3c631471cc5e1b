import java.io.IOException;
import java.lang.reflect.InvocationTargetException;
import java.nio.file.Path;

/** Sentence by sentence through the document: the edges that it names, each by a test of its own. */
public final class SentencesTest {
    public static void main(String[] args) throws IOException, IllegalAccessException, InvocationTargetException {
        Sentences sentences = new Sentences(Path.of("../shared/DOC.md"));
        sentences.run(TermsEdges.class);
        sentences.run(NetsEdges.class);
        sentences.run(BooksEdges.class);
        sentences.run(ReducingEdges.class);
        sentences.run(RowsEdges.class);
        sentences.tellUntold();
        Check.end("SentencesTest");
    }
}
