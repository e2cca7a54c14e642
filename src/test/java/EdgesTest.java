/** Each sentence of the document that names an edge, with a run of calls of its own. */
public final class EdgesTest {
    public static void main(String[] args) {
        EdgesOfTerms.all();
        EdgesOfTape.all();
        EdgesOfNodes.all();
        EdgesOfTurns.all();
        EdgesOfLetGo.all();
        EdgesOfTold.all();
        EdgesOfDone.all();
        EdgesOfThere.all();
        EdgesOfForetold.all();
        Edges.noneIsLeftOut();
        Check.end();
    }
}
