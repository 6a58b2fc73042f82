/** Each sentence of the document, from its terms to promise 42, with the boundary cases that it names. */
public final class EdgesTest {
    public static void main(String[] args) {
        EdgesOfText.all();
        EdgesOfActs.all();
        EdgesOfForecasts.all();
        EdgesOfWays.all();
        EdgesOfScribe.all();
        EdgesOfMasters.all();
        Edge.allIsQuoted();
        Check.end("EdgesTest");
    }
}
