import java.io.IOException;
import java.nio.file.Files;
import java.nio.file.Path;

/**
 * Every sentence of the document that names a boundary, by tests of its own, each of which names it. Where the
 * document can be read (the property "document"), its sentences are compared with those that are named.
 */
public final class BoundaryTest {
    private BoundaryTest() {
    }

    public static void main(String[] args) throws IOException {
        BufferBoundaries.all();
        TextBoundaries.all();
        TickBoundaries.all();
        BaleBoundaries.all();
        AskBoundaries.all();
        ChangeBoundaries.all();
        QuestionBoundaries.all();
        Path document = Path.of(System.getProperty("document", "../shared/DOC.md"));
        if (Files.isRegularFile(document)) {
            Sentences.compareWith(document);
        } else {
            System.out.println("there is no " + document + ": the sentences are not compared with it");
        }
        Checks.finish();
    }
}
