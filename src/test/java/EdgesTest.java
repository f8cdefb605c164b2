import java.io.IOException;
import java.nio.file.Path;

/** Promises 1 to 26 at every edge that the document names, each check under the words that name it. */
public final class EdgesTest {
    public static void main(String[] args) throws IOException {
        Edges edges = new Edges(Path.of("../shared/DOC.md"));
        new SceneEdges(edges).run();
        new TextEdges(edges).run();
        new CheapestEdges(edges).run();
        new ThoughtEdges(edges).run();
        new WrongEdges(edges).run();
        new TalkEdges(edges).run();
        edges.end();
    }
}
