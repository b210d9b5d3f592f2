import java.io.IOException;
import java.nio.file.Path;

/** Every sentence of the document, from its first line to its last, each under its own words. */
public final class DocumentTest {
    public static void main(String[] args) throws IOException {
        Edge e = new Edge(Path.of(args.length > 1 ? args[1] : "../shared/DOC.md"));
        Sentences.all(e);
        TermEdges.all(e);
        RowEdges.all(e);
        TextEdges.all(e);
        SigherEdges.all(e);
        DeedEdges.all(e);
        GivingEdges.all(e);
        RoundEdges.all(e);
        TuneEdges.all(e);
        WhoEdges.all(e);
        ChanceEdges.all(e);
        ToldEdges.all(e);
        Changes.all(e);
        e.end("DocumentTest");
    }
}
