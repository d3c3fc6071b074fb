import java.io.IOException;
import java.nio.file.Files;
import java.nio.file.Path;

/** Every sentence of the document that names a boundary case, one by one. */
public final class EdgeTest {
    private static final Path DOCUMENT = Path.of("..", "shared", "DOC.md");

    public static void main(String[] args) throws IOException {
        Sentences document = new Sentences();
        TermsEdges.add(document);
        RefusalEdges.add(document);
        IndexEdges.add(document);
        WishEdges.add(document);
        SolveEdges.add(document);
        LockEdges.add(document);
        StepsEdges.add(document);
        GenerationEdges.add(document);
        Check check = new Check();
        document.run(check);
        // The tests stand without the document; where it lies beside them, their words are held against it.
        if (Files.exists(DOCUMENT)) {
            document.compareWith(DOCUMENT, check);
        }
        check.finish();
    }
}
