/**
 * Each sentence of the document's Terms and promises, at the boundaries that it names: too small, too large, empty,
 * full, a wrap-around, a refused call. Each answer is told with its sentence; a sentence without a test fails.
 */
public final class BoundaryTest {
  public static void main(String[] args) throws Exception {
    Document document = new Document();
    Boundary boundary = new Boundary(document);
    BoundariesOfPeople.ask(boundary);
    BoundariesOfStreets.ask(boundary);
    BoundariesOfTexts.ask(boundary);
    BoundariesOfCampings.ask(boundary);
    BoundariesOfPeace.ask(boundary);
    BoundariesOfParts.ask(boundary);
    BoundariesOfWhatFollows.ask(boundary);
    BoundariesOfTheHost.ask(boundary);
    BoundariesOfRefusals.ask(boundary);
    boundary.end("BoundaryTest");
  }
}
