/** All promises and terms: for each sentence of the document a test of its own, its edges and what it refuses. */
public final class EdgeTest {
    public static void main(String[] args) {
        EdgesOfCrowns.run();
        EdgesOfYears.run();
        EdgesAhead.run();
        EdgesOfQuestions.run();
        EdgesOfCalls.run();
        Edge.finish();
    }
}
