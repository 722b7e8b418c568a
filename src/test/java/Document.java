import java.io.IOException;
import java.nio.charset.StandardCharsets;
import java.nio.file.Files;
import java.nio.file.Path;

/** The words of the document, on one line each: what it is, its terms, and each promise. */
final class Document {
    static final int TERMS = 0;
    private static final int PROMISES = 39;

    private final String[] parts = new String[PROMISES + 1];

    private Document() {
    }

    static Document of(Path path) throws IOException {
        Document document = new Document();
        for (String section : Files.readString(path, StandardCharsets.UTF_8).split("\n## ")) {
            document.take(section);
        }
        return document;
    }

    private void take(String section) {
        String words = section.replaceAll("```\\w*", " ").replaceAll("\\s+", " ");
        if (section.startsWith("What it is") || section.startsWith("Terms")) {
            parts[TERMS] = parts[TERMS] == null ? words : parts[TERMS] + " " + words;
        }
        if (section.startsWith("Promise ")) {
            int number = Integer.parseInt(words.substring(8, words.indexOf(':')));
            // The face, which stands ahead of the second :, has no words of its own.
            parts[number] = words.substring(words.indexOf("`: ") + 3);
        }
    }

    int promises() {
        return PROMISES;
    }

    /** The words of a promise, or of the terms (0). */
    String part(int number) {
        return parts[number] == null ? "" : parts[number];
    }
}
