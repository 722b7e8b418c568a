import java.io.IOException;
import java.nio.file.Path;

/** Runs every test of the project; exit code 1 if one failed. */
public final class AllTests {
    private AllTests() {
    }

    /** The arguments are the paths of MarkedCurves.java, of DOC.md and of README.md. */
    public static void main(String[] args) throws IOException, ReflectiveOperationException {
        Check check = new Check();
        LanguageTest.run(check, Path.of(args[0]));
        MarksTest.run(check);
        TreesTest.run(check);
        DeedsTest.run(check);
        TextsTest.run(check);
        HoldersTest.run(check);
        check.everyPromiseWasLookedAt();
        boundaries(check, Document.of(Path.of(args[1])));
        ExtremesTest.run(check);
        EveryTest.run(check);
        RandomRuns.run(check);
        ReadmeTest.run(check, Path.of(args[2]));
        System.out.println(check.counts());
        if (check.failures() > 0) {
            System.exit(1);
        }
    }

    private static void boundaries(Check check, Document document) {
        Boundaries boundaries = new Boundaries(check, document);
        MarksEdges.run(check, boundaries);
        TreesEdges.run(check, boundaries);
        DeedsEdges.run(check, boundaries);
        TextsEdges.run(check, boundaries);
        HoldersEdges.run(check, boundaries);
        RefusalEdges.run(check, boundaries);
        boundaries.everyBoundaryWasLookedAt();
    }
}
