import java.io.IOException;

/** Each sentence of the document, first of all those that name a boundary, by a test that bears its words. */
public final class BoundaryTest {
    public static void main(String[] args) throws IOException {
        Check check = new Check();
        Sentences sentences = new Sentences(check);
        BoundaryTerms.hold(sentences);
        BoundaryText.hold(sentences);
        BoundaryFigure.hold(sentences);
        BoundaryActions.hold(sentences);
        BoundaryWouldBe.hold(sentences);
        BoundaryScripts.hold(sentences);
        BoundarySlots.hold(sentences);
        BoundaryExceptions.hold(sentences);
        sentences.checkNothingIsLeftOver();
        check.end();
    }
}
