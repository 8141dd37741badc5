import java.io.IOException;
import java.nio.file.Files;
import java.nio.file.Path;
import java.util.ArrayList;
import java.util.List;

/** The document that the class is held against, in its sections and sentences. */
final class Document {
    static final int PROMISES = 25;
    private static final Path FILE = Path.of("../shared/DOC.md");

    private Document() {
    }

    static boolean isThere() {
        return Files.exists(FILE);
    }

    /** What the document says under a number: a promise's, Check.TERMS for all ahead of them, or Check.NOT_PROMISED. */
    static String section(int number) throws IOException {
        String document = Files.readString(FILE);
        String heading = "## Promise " + number + ":";
        if (number == Check.TERMS) {
            return document.substring(0, Math.max(0, document.indexOf("## Promise 1:")));
        }
        int start = document.indexOf(number == Check.NOT_PROMISED ? "## Not promised" : heading);
        int end = start < 0 ? -1 : document.indexOf("\n## ", start);
        return start < 0 ? "" : document.substring(start, end < 0 ? document.length() : end);
    }

    static String theFace() throws IOException {
        String document = Files.readString(FILE);
        int start = document.indexOf("```java\n") + "```java\n".length();
        int end = document.indexOf("```", start);
        return end < 0 ? "" : document.substring(start, end);
    }

    /** The words of a section in one line, without headings, and without the marks of code. */
    static String plain(String words) {
        String text = words.replaceAll("(?m)^#+ .*$|^```.*$|^[A-Z ]+$", "");
        return text.replace("`", "").replaceAll("\\s+", " ").trim();
    }

    /** A section's sentences, each one plain; a point of a list and a line of code are sentences too. */
    static List<String> sentences(String section) {
        List<String> sentences = new ArrayList<>();
        String text = section.replaceAll("(?m)^#+ .*$|^```.*$|^[A-Z ]+$", "");
        for (String block : text.split("\\n\\s*\\n|\\n(?=- )|(?<=[;{])\\n")) {
            for (String sentence : plain(block).split("(?<=[^. ][.]) ")) {
                if (!sentence.isEmpty()) {
                    sentences.add(sentence);
                }
            }
        }
        return sentences;
    }
}
