import java.io.IOException;
import java.nio.file.Path;

/** Each sentence of the document that names a bound, with a test of its own. */
public final class EdgesTest {
    public static void main(String[] args) throws IOException {
        Sentences s = new Sentences(Path.of("../shared/DOC.md"));
        TextEdges.look(s);
        FrostEdges.look(s);
        DebtEdges.look(s);
        PlanEdges.look(s);
        SeenEdges.look(s);
        ChanceEdges.look(s);
        SheetEdges.look(s);
        DigestEdges.look(s);
        if (!s.areKept()) System.exit(1);
    }
}
