import java.io.IOException;

/** Each sentence of the document that names an edge, with a test of its own; Sentences tells if one has none. */
public final class EdgesTest {
    public static void main(String[] args) throws IOException {
        EdgesOfText.all();
        EdgesOfPlatoons.all();
        EdgesOfEdits.all();
        EdgesOfSets.all();
        Sentences.end();
        Check.end();
    }
}
