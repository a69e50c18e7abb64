import java.io.IOException;
import java.nio.file.Files;
import java.nio.file.Path;

/** Each sentence of the document that names a boundary case, on both sides of the boundary. */
final class EdgesTest {
    public static void main(String[] args) throws IOException {
        Path shared = Path.of(args.length > 1 ? args[1] : "../shared");
        Edges edges = new Edges();
        new EdgesOfTerms(edges).check();
        new EdgesOfField(edges).check();
        new EdgesOfDone(edges).check();
        new EdgesOfWhere(edges).check();
        new EdgesOfRoom(edges).check();
        new EdgesOfWays(edges).check();
        new EdgesOfLaws(edges).check();
        new EdgesOfChance(edges).check();
        new EdgesOfKept(edges).check();
        edges.finish(Files.readString(shared.resolve("DOC.md")));
    }
}
