/** Each sentence of the document that names a boundary case, by a test of its own; in the end none must be left. */
public final class EdgesTest {
    public static void main(String[] args) {
        NodeEdges.all();
        DefinitionEdges.all();
        NeedEdges.all();
        PassEdges.all();
        EvaluationEdges.all();
        RunEdges.all();
        RefusalEdges.all();
        Doc.allIsSaid();
        Check.end("EdgesTest");
    }
}
