import java.io.IOException;

/**
 * A test of its own for each sentence of ../shared/DOC.md that names a boundary case, on both sides
 * of the boundary; at the end it looks whether a sentence of the document has been left out.
 */
public final class BoundaryTest {
    public static void main(String[] args) throws IOException {
        Sentences s = new Sentences();
        new ErrorSentences(s).all();
        new TextSentences(s).all();
        new TermSentences(s).all();
        new PastSentences(s).all();
        new ShapeSentences(s).all();
        new LookSentences(s).all();
        new MeetingSentences(s).all();
        s.end("BoundaryTest");
    }
}
