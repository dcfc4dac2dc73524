import java.nio.file.DirectoryStream;
import java.nio.file.Files;
import java.nio.file.Path;
import java.util.ArrayList;
import java.util.Arrays;
import java.util.List;
import java.util.regex.Matcher;
import java.util.regex.Pattern;

// Whether what the document promises is quoted, sentence by sentence, by the tests.
public final class DocumentTest {
    /** Words between two quotes ("and", ": laid flat by rolling,") may be left out, sentences not. */
    private static final int MOST_LEFT_OUT = 40;
    private static final Pattern QUOTE = Pattern.compile("DOC\\.of\\(((?:\\s*\\+?\\s*\"[^\"]*\")+)\\)");
    private static final Pattern TEXT = Pattern.compile("\"([^\"]*)\"");
    private static int wrong = 0;

    public static void main(String[] args) throws Exception {
        String document = Sentences.document(args);
        boolean[] quoted = new boolean[document.length()];
        for (String quote : quotes(Path.of(args.length > 0 ? args[0] : ".", "src/test/java"))) {
            for (int i = document.indexOf(quote); i >= 0; i = document.indexOf(quote, i + 1)) {
                Arrays.fill(quoted, i, i + quote.length(), true);
            }
        }
        look(document, quoted, document.indexOf("Over a box by the shortest"), document.indexOf("## The public face"));
        look(document, quoted, document.indexOf("## Terms"), document.indexOf("Ahead of the calls"));
        int promises = 0;
        Matcher promise = Pattern.compile("(?m)^`[^`]*\\(.*?\\)`: .*$").matcher(document);
        while (promise.find()) {
            promises++;
            look(document, quoted, document.indexOf("`: ", promise.start()) + 3, promise.end());
        }
        if (promises != 32) {
            fail(promises + " promises are found, not 32");
        }
        System.out.println(wrong == 0 ? "all sentences are quoted by tests" : wrong + " are not quoted");
        if (wrong != 0) {
            System.exit(1);
        }
    }

    private static List<String> quotes(Path folder) throws Exception {
        List<String> found = new ArrayList<>();
        try (DirectoryStream<Path> files = Files.newDirectoryStream(folder, "*Test.java")) {
            for (Path file : files) {
                Matcher quote = QUOTE.matcher(Files.readString(file));
                while (quote.find()) {
                    StringBuilder whole = new StringBuilder();
                    Matcher text = TEXT.matcher(quote.group(1));
                    while (text.find()) {
                        whole.append(text.group(1));
                    }
                    found.add(whole.toString());
                }
            }
        }
        return found;
    }

    private static void look(String document, boolean[] quoted, int from, int to) {
        if (from < 0 || to < from) {
            fail("the document has other parts");
            return;
        }
        int start = from;
        boolean none = true;
        for (int i = from; i <= to; i++) {
            none &= i == to || !quoted[i];
            if (i == to || quoted[i]) {
                String left = document.substring(start, i).trim();
                if (left.length() > MOST_LEFT_OUT) {
                    fail(left);
                }
                start = i + 1;
            }
        }
        // A promise may be shorter than what may be left out.
        if (none) {
            fail(document.substring(from, to));
        }
    }

    private static void fail(String what) {
        wrong++;
        System.out.println("no test quotes: " + what);
    }
}
