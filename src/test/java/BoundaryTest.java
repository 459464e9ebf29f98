import java.io.IOException;

/** Each sentence of the document, above all those that name a boundary, has a test of its own. */
public final class BoundaryTest {
    public static void main(String[] args) throws IOException {
        Check check = new Check();
        Sentences sentences = new Sentences(check);
        new PorchBounds(check, sentences).all();
        new TextBounds(check, sentences).all();
        new MinuteBounds(check, sentences).all();
        new ThoughtBounds(check, sentences).all();
        new PuzzleBounds(check, sentences).all();
        new BackBounds(check, sentences).all();
        sentences.close();
        check.close("BoundaryTest");
    }
}
