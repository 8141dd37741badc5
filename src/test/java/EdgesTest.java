import java.nio.file.Files;
import java.nio.file.Path;
import java.util.ArrayList;
import java.util.List;
import java.util.Set;

/** Each sentence of the document that names a boundary case, with a test of its own. */
public final class EdgesTest {
    private static final Path DOCUMENT = Path.of("../shared/DOC.md");
    private static final int MOST_PROMISES = 100;

    /** How sentences end that name no boundary: what a method is for, what an argument stands for, and headings. */
    private static final Set<String> WITHOUT_AN_EDGE = Set.of(
            "It tells how far corners are apart, in two ways that must agree, where a dog can be, by which sightings, the "
                    + "corner to be watched, what each finder would get.",
            "Changes can be undone.",
            "the interface says: ---- text.", "the interface says: ---- what there is.",
            "the interface says: ---- actions.", "the interface says: ---- scripts, simulations.",
            "the interface says: ---- save slots.",
            ": Returns a number.", ": Returns a number of a dog.", ": Returns a number of a sighting.",
            "Returns that number.", "Returns the coins.", ": Tells how far two corners are apart.",
            ": A finder tells a sighting, at an hour.", ": Changes a setting.", ": Tells where a missing dog can be now.",
            ": Tells which dog marks would mean.", ": Tells what a finder would get.",
            "- d: dog", "- s: sighting", "- f: finder", "- a: corner", "- b: corner", "- corner: where");

    public static void main(String[] args) throws Exception {
        QuarterEdges.run();
        DogEdges.run();
        SightingEdges.run();
        PlaceEdges.run();
        FoundEdges.run();
        ActionEdges.run();
        TextEdges.run();
        ScriptEdges.run();
        SlotEdges.run();
        checkSentences();
        Check.end("EdgesTest");
    }

    private static void checkSentences() throws Exception {
        if (!Files.exists(DOCUMENT)) {
            System.out.println("EdgesTest: there is no " + DOCUMENT + " to compare the sentences with");
            return;
        }
        String document = Files.readString(DOCUMENT);
        List<Check.Quote> quotes = new ArrayList<>(Check.quotes());
        for (Check.Quote quote : quotes) {
            Check.sentence(quote.promise(), quote.words());
            Check.isTrue("the document has this sentence", plain(section(document, quote.promise()))
                    .contains(plain(quote.words())));
        }
        for (int promise = 0; promise < MOST_PROMISES; promise++) {
            for (String sentence : sentences(section(document, promise))) {
                Check.sentence(promise, sentence);
                Check.isTrue("this sentence has a test", isQuoted(quotes, promise, sentence)
                        || WITHOUT_AN_EDGE.stream().anyMatch(sentence::endsWith));
            }
        }
    }

    private static boolean isQuoted(List<Check.Quote> quotes, int promise, String sentence) {
        for (Check.Quote quote : quotes) {
            String words = plain(quote.words());
            if (quote.promise() == promise && (sentence.contains(words) || words.contains(sentence))) {
                return true;
            }
        }
        return false;
    }

    /** What the document says under a promise's number; under 0 what stands ahead of the promises. */
    private static String section(String document, int promise) {
        int start = document.indexOf(promise == 0 ? "## Terms" : "## Promise " + promise + ":");
        int end = start < 0 ? -1 : document.indexOf("\n## ", start);
        return start < 0 ? "" : document.substring(document.indexOf('\n', start), end < 0 ? document.length() : end);
    }

    private static String plain(String words) {
        return words.replace("`", "").replaceAll("\\s+", " ").trim();
    }

    private static List<String> sentences(String section) {
        List<String> sentences = new ArrayList<>();
        // Headings in capitals stand on a line of their own; points of a list are sentences without a full stop.
        String text = section.replaceAll("(?m)^[A-Z ]+$", "");
        for (String block : text.split("\\n\\s*\\n|\\n(?=- )")) {
            for (String sentence : plain(block).split("(?<=[^. ][.]) ")) {
                if (!sentence.isEmpty()) {
                    sentences.add(sentence);
                }
            }
        }
        return sentences;
    }
}
