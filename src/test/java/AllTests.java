import java.io.IOException;
import java.nio.file.Path;

/** Runs every test of the project; exit code 1 if one failed. */
public final class AllTests {
    private AllTests() {
    }

    /** The argument is the path of MarkedCurves.java. */
    public static void main(String[] args) throws IOException {
        Check check = new Check();
        LanguageTest.run(check, Path.of(args[0]));
        MarksTest.run(check);
        TreesTest.run(check);
        DeedsTest.run(check);
        TextsTest.run(check);
        HoldersTest.run(check);
        check.everyPromiseWasLookedAt();
        EveryTest.run(check);
        RandomRuns.run(check);
        System.out.println(check.counts());
        if (check.failures() > 0) {
            System.exit(1);
        }
    }
}
