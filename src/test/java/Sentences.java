import java.io.IOException;
import java.nio.file.Files;
import java.nio.file.Path;
import java.util.regex.Matcher;
import java.util.regex.Pattern;

/**
 * The document's sentences, each with the answers that it makes due. At the end it tells
 * which numbers and bounds of the document no sentence has quoted, so that none is left out.
 */
final class Sentences {
    /** The part of 'What it is' and 'Terms'; the others are the promises by their numbers. */
    static final int TERMS = 0;
    private static final int PROMISES = 42;
    private static final Pattern BOUND = Pattern.compile(
        "\\d+|at most|\\b(NONE|NOTHING|BAD|FULL|NULL|NOT|CAST|INDEX|STORE|SIZE|LOST)\\b|least|fewest|empty|greater|\\bno\\b");

    private final String[] parts = new String[PROMISES + 1];
    private final boolean[][] quoted = new boolean[PROMISES + 1][];
    private String told = "";
    private int duesOfIt = 1;
    private int sentences = 0;
    private int dues = 0;
    private int wrong = 0;

    Sentences(Path document) throws IOException {
        String text = Files.readString(document).replaceAll("```\\w*", " ").replaceAll("\\s+", " ");
        parts[TERMS] = between(text, "======== 1 ", "## The public face") + between(text, "## Terms", "Ahead of the calls");
        parts[TERMS] = parts[TERMS].replaceAll("======== \\d ", "");
        for (int n = 1; n <= PROMISES; n++) {
            String promise = between(text, "## Promise " + n + ": ", " ## ");
            parts[n] = promise.substring(promise.indexOf("`: ") + 3);
        }
        for (int n = 0; n <= PROMISES; n++) quoted[n] = new boolean[parts[n].length()];
    }

    private static String between(String text, String from, String to) {
        int start = text.indexOf(from);
        if (start < 0) throw new IllegalStateException("the document has no " + from);
        int end = text.indexOf(to, start);
        if (end < 0) throw new IllegalStateException("the document has no " + to + " behind " + from);
        return text.substring(start + from.length(), end);
    }

    /** A sentence begins: the answers that follow are due by it. */
    void says(int part, String quote) {
        endSentence();
        told = (part == TERMS ? "terms" : "promise " + part) + ", \"" + quote + "\"";
        sentences++;
        int at = parts[part].indexOf(quote);
        if (at < 0) fail("the document does not say so");
        for (; at >= 0; at = parts[part].indexOf(quote, at + 1)) {
            for (int i = 0; i < quote.length(); i++) quoted[part][at + i] = true;
        }
    }

    void due(String call, long got, long want) {
        duesOfIt++;
        dues++;
        if (got != want) fail(call + " answered " + got + ", due is " + want);
    }

    private void fail(String what) {
        wrong++;
        System.out.println(told + ": " + what);
    }

    private void endSentence() {
        if (duesOfIt == 0) fail("no answer was looked at");
        duesOfIt = 0;
    }

    private void tellUnquoted() {
        for (int n = 0; n <= PROMISES; n++) {
            StringBuilder left = new StringBuilder(parts[n]);
            for (int i = 0; i < left.length(); i++) if (quoted[n][i]) left.setCharAt(i, ' ');
            Matcher bound = BOUND.matcher(left);
            while (bound.find()) {
                told = n == TERMS ? "terms" : "promise " + n;
                int from = Math.max(0, bound.start() - 30);
                fail("no test quotes " + bound.group() + " of .." + parts[n].substring(from, bound.end()));
            }
        }
    }

    boolean areKept() {
        endSentence();
        tellUnquoted();
        System.out.println(sentences + " sentences, " + dues + " answers looked at, " + wrong + " wrong");
        return wrong == 0;
    }
}
