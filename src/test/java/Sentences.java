import java.nio.file.Files;
import java.nio.file.Path;
import java.util.ArrayList;
import java.util.List;

/** Answers that are due, each under the sentence of the document that asks for it. */
final class Sentences {
    private final List<String> quotes = new ArrayList<>();
    private int asked = 1;
    private int wrong = 0;

    /** What is asked from here on stands in the document in these words. */
    void of(String quote) {
        endOfSentence();
        quotes.add(quote);
        asked = 0;
    }

    void due(String call, long got, long want) {
        asked++;
        if (got != want) {
            fail(call + " answered " + got + ", due is " + want + ": " + quotes.get(quotes.size() - 1));
        }
    }

    void so(String what, boolean holds) {
        due(what, holds ? 1 : 0, 1);
    }

    /** Fails if an answer was wrong, or if a quote isn't in the document, so that none is made up. */
    void finish(String[] args) throws Exception {
        endOfSentence();
        String document = document(args);
        for (String quote : quotes) {
            if (!document.contains(quote)) {
                fail("not in the document: " + quote);
            }
        }
        System.out.println(wrong == 0 ? quotes.size() + " sentences hold" : wrong + " answers are not as due");
        if (wrong != 0) {
            System.exit(1);
        }
    }

    static String document(String[] args) throws Exception {
        return Files.readString(Path.of(args.length > 0 ? args[0] : ".", "../shared/DOC.md"));
    }

    private void endOfSentence() {
        if (asked == 0) {
            fail("nothing is asked of: " + quotes.get(quotes.size() - 1));
        }
    }

    private void fail(String what) {
        wrong++;
        System.out.println(what);
    }
}
