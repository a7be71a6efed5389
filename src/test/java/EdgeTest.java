import java.io.IOException;

/** Every sentence of the document that names an edge, with a test of its own; none is left out. */
public final class EdgeTest {
    public static void main(String[] args) throws IOException {
        Edge.open();
        EdgeTexts.all();
        EdgeLaws.all();
        EdgeActs.all();
        EdgeSearches.all();
        EdgeGuesses.all();
        EdgeEvenings.all();
        EdgePromises.all();
        EdgeAnswers.all();
        Edge.allQuoted();
        Check.end();
    }
}
