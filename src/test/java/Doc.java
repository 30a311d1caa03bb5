import java.io.IOException;
import java.nio.file.Files;
import java.nio.file.Path;
import java.util.regex.Matcher;
import java.util.regex.Pattern;

/**
 * The document's own words. Each test of a boundary quotes those that it looks at; a quote that does not stand in the
 * document is told, and at the end each clause that no test quoted.
 */
final class Doc {
    private static final int PROMISES = 39;
    private static final Path PLACE = Path.of("../shared/DOC.md");
    private static final String TEXT = read();
    private static final boolean[] QUOTED = new boolean[TEXT.length()];

    private Doc() {
    }

    // Without the document the boundaries are tested all the same, but not whether they are all that it names.
    private static String read() {
        try {
            return Files.readString(PLACE);
        } catch (IOException e) {
            System.out.println(PLACE + " was not found: what the tests quote was not compared with it");
            return "";
        }
    }

    /** Words of all that stands ahead of the promises. */
    static void terms(String words) {
        quote(0, startOf(1), words);
    }

    static void promise(int number, String words) {
        quote(startOf(number), endOf(number), words);
    }

    private static int startOf(int number) {
        return TEXT.indexOf("## Promise " + number + ":");
    }

    private static int endOf(int number) {
        return number < PROMISES ? startOf(number + 1) : TEXT.indexOf("## Not promised");
    }

    private static void quote(int from, int to, String words) {
        if (TEXT.isEmpty()) {
            return;
        }
        int at = TEXT.indexOf(words, from);
        if (from < 0 || at < 0 || at + words.length() > to) {
            Check.tell("the document does not say: " + words);
            return;
        }
        for (int i = at; i < at + words.length(); i++) {
            QUOTED[i] = true;
        }
    }

    static void end() {
        if (TEXT.isEmpty()) {
            return;
        }
        askBetween(TEXT.indexOf("An object is used"), TEXT.indexOf("## The public face"));
        askBetween(TEXT.indexOf("Nodes are numbered"), TEXT.indexOf("Patterns, rules\n"));
        askBetween(TEXT.indexOf("A pattern tells"), TEXT.indexOf("Ahead of the calls"));
        for (int p = 1; p <= PROMISES; p++) {
            int behindSignature = TEXT.indexOf("`: ", startOf(p));
            askBetween(behindSignature, endOf(p));
        }
    }

    private static void askBetween(int from, int to) {
        Check.is("the document has the words from " + from + " to " + to, from >= 0 && to > from, true);
        Matcher clauses = Pattern.compile("[^.,;:()\\n]+").matcher(TEXT).region(Math.max(from, 0), Math.max(to, 0));
        while (clauses.find()) {
            if (clauses.group().matches("(?s).*[a-z].*") && !isQuoted(clauses.start(), clauses.end())) {
                Check.tell("no test of a boundary quotes:" + clauses.group() + " (sign " + clauses.start() + ")");
            }
        }
    }

    private static boolean isQuoted(int from, int to) {
        for (int i = from; i < to; i++) {
            if (QUOTED[i]) {
                return true;
            }
        }
        return false;
    }
}
