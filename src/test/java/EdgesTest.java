import java.io.IOException;
import java.nio.file.Path;

/** The document sentence by sentence: its bounds, what is just within, just beyond, empty, full, cut, refused. */
public final class EdgesTest {
    public static void main(String[] args) throws IOException {
        Sentences s = new Sentences();
        new TermEdges(s).all();
        new LandEdges(s).all();
        new WayEdges(s).all();
        new LetterEdges(s).all();
        new TextEdges(s).all();
        new SheetEdges(s).all();
        new ImageEdges(s).all();
        s.end(Document.sentences(Path.of("../shared/DOC.md")));
    }
}
