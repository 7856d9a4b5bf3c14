import java.io.IOException;
import java.nio.file.Files;
import java.nio.file.Path;
import java.util.ArrayList;
import java.util.List;
import java.util.regex.Pattern;

/**
 * Sentences of the document, each with the answers that are due if it holds. Each quote is looked up in the
 * document; and of the promises that a test is for, each clause that names a code and each line about an
 * argument must have been quoted, and of a part of the description each sentence, so that none of them can
 * be forgotten.
 */
final class Sentences {
    private static final Path DOCUMENT = Path.of("../shared/DOC.md");
    private static final String SENTENCE_ENDS = "(?<=\\.|\\.\\)|;)\\s+(?=[A-Za-z\"(])";
    private static final Pattern CODE = Pattern.compile("\\b(NO_SUCH|BAD_VALUE|BAD_TEXT|TOO_MANY|NOT_POSSIBLE|NONE|GONE)\\b");

    private final Due due;
    private final String document;
    private final List<String> quotes = new ArrayList<>();
    private String heading = "";
    private String section = "";
    private int answersOfQuote = 1;

    Sentences(String title) {
        due = new Due(title);
        document = read();
    }

    private static String read() {
        try {
            return Files.readString(DOCUMENT).replace("\r", "") + "\n## ";
        } catch (IOException e) {
            throw new IllegalStateException("cannot read " + DOCUMENT, e);
        }
    }

    private static String squeezed(String text) {
        return text.replaceAll("\\s+", " ").trim();
    }

    /** Opens a section of the document, by the start of its heading. */
    void section(String start) {
        endQuote();
        heading = start;
        section = textOf(start);
        due.holds("the document has a section " + start, !section.isEmpty());
    }

    void promise(int number) {
        section(headingOf(number));
    }

    private static String headingOf(int number) {
        return "Promise " + number + ":";
    }

    private String textOf(String start) {
        int from = document.indexOf("\n## " + start);
        return from < 0 ? "" : document.substring(from + 1, document.indexOf("\n## ", from + 1));
    }

    /** Begins the test of a sentence. */
    void says(String quote) {
        endQuote();
        quotes.add(heading + squeezed(quote));
        answersOfQuote = 0;
        due.holds("in " + heading + " the document says: " + quote, squeezed(section).contains(squeezed(quote)));
    }

    void due(String call, long got, long want) {
        answersOfQuote++;
        String quote = quotes.isEmpty() ? "" : quotes.get(quotes.size() - 1);
        if (got == want) {
            due.same(call, got, want);
        } else {
            due.same("\"" + quote + "\": " + call, got, want);
        }
    }

    private void endQuote() {
        if (answersOfQuote == 0) {
            due.holds("a test of " + quotes.get(quotes.size() - 1), false);
        }
    }

    void end() {
        endQuote();
        due.end();
    }

    void endWithPromises(int first, int last) {
        for (int number = first; number <= last; number++) {
            for (String piece : piecesOf(number)) {
                due.holds(headingOf(number) + " has a test of: " + piece, isQuoted(headingOf(number), piece));
            }
        }
        end();
    }

    /** Each sentence of the description from one on, up to another one, must have been quoted. */
    void endWithDescription(String first, String beyond) {
        section("Description");
        String text = squeezed(section);
        int from = text.indexOf(first);
        int to = text.indexOf(beyond);
        due.holds("the description goes from " + first + " to " + beyond, from >= 0 && from < to);
        for (String sentence : text.substring(Math.max(from, 0), Math.max(to, 0)).split(SENTENCE_ENDS)) {
            due.holds("the description has a test of: " + sentence, isQuoted(heading, sentence.trim()));
        }
        end();
    }

    /** The lines about arguments, and the clauses that name a code. */
    private List<String> piecesOf(int number) {
        List<String> pieces = new ArrayList<>();
        for (String line : textOf(headingOf(number)).split("\n")) {
            if (line.startsWith("- `")) {
                pieces.add(squeezed(line.substring(2)));
                continue;
            }
            for (String clause : line.split("; |\\.$|\\. ")) {
                if (CODE.matcher(clause).find()) {
                    pieces.add(squeezed(clause));
                }
            }
        }
        return pieces;
    }

    private boolean isQuoted(String start, String piece) {
        for (String quote : quotes) {
            if (quote.startsWith(start)) {
                String text = quote.substring(start.length());
                if (piece.contains(text) || text.contains(piece)) {
                    return true;
                }
            }
        }
        return false;
    }
}
