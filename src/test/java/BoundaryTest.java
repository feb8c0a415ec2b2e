import java.nio.file.Path;

/** Each sentence of the document, by its boundary cases; the document's own words say which test stands for what. */
public final class BoundaryTest {
    public static void main(String[] args) throws Exception {
        Sentences sentences = new Sentences(Path.of(System.getProperty("document", "../shared/DOC.md")));
        sentences.runAll(NetworkBoundaries.class, PacketBoundaries.class, WayBoundaries.class, TextBoundaries.class,
            StateBoundaries.class);
        sentences.close();
    }
}
