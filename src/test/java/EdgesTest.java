import java.io.IOException;

/** The boundary cases of promises 1 to 47, a test for each sentence of the document that names one. */
public final class EdgesTest {
    public static void main(String[] args) throws IOException {
        Edges edges = new Edges();
        new EdgesOfTape(edges).all();
        new EdgesOfTowns(edges).all();
        new EdgesOfLaws(edges).all();
        new EdgesOfYears(edges).all();
        new EdgesByHand(edges).all();
        new EdgesOfDays(edges).all();
        new EdgesJustSo(edges).all();
        new EdgesOfGuesses(edges).all();
        new EdgesOfFeeling(edges).all();
        new EdgesOfOdds(edges).all();
        new EdgesOfMarks(edges).all();
        edges.finish();
    }
}
