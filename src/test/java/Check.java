/** Counts answers that are due, by promise, and prints those that are otherwise. */
final class Check {
    private static final int PRINTED = 40;

    private final int[] byPromise = new int[40];
    private int promise;
    private String sentence = "";
    private int passed;
    private int failed;

    void promise(int number) {
        promise = number;
        sentence = "";
    }

    /** The words of the document that the answers to come are due by. */
    void sentence(String words) {
        sentence = words;
    }

    void due(String call, long got, long want) {
        byPromise[promise]++;
        if (got == want) {
            passed++;
            return;
        }
        failed++;
        if (failed <= PRINTED) {
            System.out.println("promise " + promise + ": " + call + " answered " + got
                + ", due is " + want + (sentence.isEmpty() ? "" : ", by: " + sentence));
        }
    }

    void holds(String what, boolean is) {
        due(what, is ? 1 : 0, 1);
    }

    /** Each promise has been looked at, or this is a failure of its own. */
    void everyPromiseWasLookedAt() {
        for (int p = 1; p < byPromise.length; p++) {
            if (byPromise[p] == 0) {
                failed++;
                System.out.println("promise " + p + " has no test");
            }
        }
    }

    /** How many answers have been looked at. */
    int answers() {
        return passed + failed;
    }

    int failures() {
        return failed;
    }

    String counts() {
        return passed + " passed, " + failed + " failed";
    }
}
