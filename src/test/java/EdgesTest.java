import java.util.ArrayList;
import java.util.List;

/** Runs all tests of boundary cases and sees to it that each promise has one at least. */
public final class EdgesTest {
    private static final int PROMISES = 40;
    private static final Class<?>[] TESTS = {TapeEdges.class, LibraryEdges.class, ShelfEdges.class, ForesightEdges.class,
        LifeEdges.class, SentenceEdges.class, ImageEdges.class};

    public static void main(String[] args) {
        List<String> names = new ArrayList<>();
        for (Class<?> tests : TESTS) {
            names.addAll(Edges.runAll(tests));
        }
        Edges.BENCH.part("the tests");
        for (int promise = 1; promise <= PROMISES; promise++) {
            String start = String.format("promise%02d_", promise);
            Edges.due("tests of promise " + promise, names.stream().anyMatch(name -> name.startsWith(start)), true);
        }
        Edges.BENCH.finish("EdgesTest, " + names.size() + " tests");
    }
}
