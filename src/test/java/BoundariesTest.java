import java.io.IOException;
import java.nio.file.Path;

/** Every sentence of the document that names a boundary case, with a test of its own. */
public final class BoundariesTest {
    public static void main(String[] args) throws IOException {
        Sentences s = new Sentences(Path.of("../shared/DOC.md"));
        TextBounds.test(s);
        ToldBounds.test(s);
        RunBounds.test(s);
        WayBounds.test(s);
        ErrandBounds.test(s);
        OtherwiseBounds.test(s);
        PlaceBounds.test(s);
        s.end();
    }
}
