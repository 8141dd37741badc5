import java.io.IOException;
import java.util.ArrayList;
import java.util.List;
import java.util.Set;

/** Each sentence of the document, with a test of its own; no word of the document is left without one. */
public final class EdgesTest {
    /** What no test can hold the class against, since it says what is free. */
    private static final Set<String> FREE = Set.of(
            "How the state is held inside the object is free, as are the speed of each call, the text of toString and the "
                    + "behaviour of equals and hashCode.",
            "Use of one object from several threads at once is not promised to be safe.");

    public static void main(String[] args) throws IOException {
        WholeEdges.run();
        FaceEdges.run();
        QuarterEdges.run();
        DogEdges.run();
        SightingEdges.run();
        PlaceEdges.run();
        FoundEdges.run();
        ActionEdges.run();
        TextEdges.run();
        ScriptEdges.run();
        SlotEdges.run();
        if (Document.isThere()) {
            checkQuotes();
            checkSentences();
        } else {
            System.out.println("EdgesTest: there is no document to compare the sentences with");
        }
        Check.end("EdgesTest");
    }

    private static void checkQuotes() throws IOException {
        for (Check.Quote quote : new ArrayList<>(Check.quotes())) {
            Check.against(quote);
            Check.isTrue("the document has this sentence",
                    Document.plain(Document.section(quote.promise())).contains(Document.plain(quote.words())));
        }
    }

    private static void checkSentences() throws IOException {
        List<Check.Quote> quotes = new ArrayList<>(Check.quotes());
        int found = 0;
        for (int number = Check.NOT_PROMISED; number <= Document.PROMISES; number++) {
            for (String sentence : Document.sentences(Document.section(number))) {
                found++;
                Check.against(new Check.Quote(number, sentence));
                Check.same("words without a test", FREE.contains(sentence) ? "" : untested(quotes, number, sentence), "");
            }
        }
        Check.isTrue("the document has sentences", found > 100);
    }

    /** Those words of a sentence that no test quotes. */
    private static String untested(List<Check.Quote> quotes, int number, String sentence) {
        StringBuilder left = new StringBuilder(sentence);
        for (Check.Quote quote : quotes) {
            String words = Document.plain(quote.words());
            if (quote.promise() == number && words.contains(sentence)) {
                return "";
            }
            for (int at = sentence.indexOf(words); quote.promise() == number && at >= 0;
                    at = sentence.indexOf(words, at + 1)) {
                left.replace(at, at + words.length(), " ".repeat(words.length()));
            }
        }
        return left.toString().replaceAll("[^A-Za-z0-9]+", " ").trim();
    }
}
