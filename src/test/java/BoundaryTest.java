import java.io.IOException;

/**
 * The boundary cases of the document, sentence by sentence: see Boundary. What a test is about is
 * told by the section and the words in its says(), and by the promise in its name.
 */
public final class BoundaryTest {
    public static void main(String[] args) throws IOException {
        Boundary doc = new Boundary();
        new PlatformBoundaries(doc).all();
        new TurnBoundaries(doc).all();
        new ActBoundaries(doc).all();
        new TextBoundaries(doc).all();
        new HistoryBoundaries(doc).all();
        new TellingBoundaries(doc).all();
        new SearchBoundaries(doc).all();
        sentencesWithoutBoundaries(doc);
        doc.end("BoundaryTest");
    }

    private static void sentencesWithoutBoundaries(Boundary doc) {
        doc.noBoundaryIn("What it is", "Shadow tag on a moving platform with three lamps");
        doc.noBoundaryIn("ERRORS", "Errors are reported by the constants below.", "the interface says: ---- runners, lamps.",
            "the interface says: ---- texts.", "the interface says: ---- history.", "the interface says: ---- what is told.");
        doc.noBoundaryIn("Not promised", "How the state is held inside the object is free",
            "Use of one object from several threads", "Nothing is promised beyond the answers and state changes");
    }
}
