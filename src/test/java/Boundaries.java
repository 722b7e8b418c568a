import java.util.ArrayList;
import java.util.List;
import java.util.regex.Matcher;
import java.util.regex.Pattern;

/**
 * The sentences of the document that name a boundary case. A test begins by telling whose words it
 * looks at; at the end no such words may be left without a test, and no test without an answer that
 * it looked at.
 */
final class Boundaries {
    /** The words by which the document names a boundary. */
    private static final Pattern NAMED = Pattern.compile(
        "\\b(BAD|NOT|FULL|STATE|NO)\\b|(?<![\\w.])-1[1-4]?\\b|-[12]000|\\d+ \\.\\. \\d+|\\(0, 1, 2;"
        + "|at most|at first|no more|more than|any more|not as many|\\b(above|below) \\d+"
        + "|not above 0|too early|no room|latest|none|empty|otherwise|L less [12]\\b|LEAF 0"
        + "|all 0|no such|the least long|\\(0 by 1\\)|8 at|each once|once\\b|STAR|the first");

    private final Check check;
    private final Document document;
    private final List<List<int[]>> spans = new ArrayList<>();
    private String untested = "";
    private int answersAhead;

    Boundaries(Check check, Document document) {
        this.check = check;
        this.document = document;
        for (int part = 0; part <= document.promises(); part++) {
            spans.add(new ArrayList<>());
        }
    }

    /** Begins the test of these words of a promise. */
    void promise(int promise, String words) {
        begin(promise, promise, words);
    }

    /** Begins the test, with the calls of a promise, of these words of the terms. */
    void terms(int promise, String words) {
        begin(promise, Document.TERMS, words);
    }

    private void begin(int promise, int part, String words) {
        lastOneWasTested();
        check.promise(promise);
        int at = document.part(part).indexOf(words);
        check.holds("the document says: " + words, at >= 0);
        for (; at >= 0; at = document.part(part).indexOf(words, at + 1)) {
            spans.get(part).add(new int[] {at, at + words.length()});
        }
        check.sentence(words);
        untested = words;
        answersAhead = check.answers();
    }

    private void lastOneWasTested() {
        boolean tested = untested.isEmpty() || check.answers() > answersAhead;
        check.holds("there is a test of: " + untested, tested);
        untested = "";
    }

    void everyBoundaryWasLookedAt() {
        lastOneWasTested();
        check.sentence("");
        for (int part = 0; part <= document.promises(); part++) {
            check.promise(part);
            Matcher named = NAMED.matcher(document.part(part));
            while (named.find()) {
                check.holds("a boundary has a test: " + around(part, named.start(), named.end()),
                    isWithinOne(part, named.start(), named.end()));
            }
        }
    }

    private boolean isWithinOne(int part, int start, int end) {
        return spans.get(part).stream().anyMatch(span -> span[0] <= start && end <= span[1]);
    }

    private String around(int part, int start, int end) {
        String words = document.part(part);
        return "[" + part + "] .. " + words.substring(Math.max(0, start - 30), start)
            + "<<" + words.substring(start, end) + ">>"
            + words.substring(end, Math.min(words.length(), end + 30));
    }
}
