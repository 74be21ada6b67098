/** Boundary cases, sentence by sentence of the document: what is just taken and what is just refused. */
public final class EdgesTest {
    public static void main(String[] args) {
        Check check = new Check("EdgesTest");
        Edges edges = new Edges(check);
        EdgesOfText.run(edges);
        EdgesOfActs.run(edges);
        EdgesOfRounds.run(edges);
        EdgesOfLetters.run(edges);
        EdgesOfTogether.run(edges);
        edges.finish();
        check.finish();
    }
}
