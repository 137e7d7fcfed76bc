import java.io.IOException;
import java.nio.file.Files;
import java.nio.file.Path;
import java.util.BitSet;

/**
 * The document's own words: a test can't name a sentence that doesn't stand there, and no sentence may stay without a
 * test that names it.
 */
final class Document {
    private static final Path FILE = Path.of("../shared/DOC.md");
    private static final int PROMISES = 32;
    private static final String SO_BELOW = "(so below)";
    private static final String FREE = "what later calls answer is free.";

    /** Section 0 is all that stands ahead of the promises, section n is promise n. */
    private static final String[] SECTIONS = new String[PROMISES + 1];
    private static final BitSet[] NAMED = new BitSet[PROMISES + 1];

    static {
        String whole = read();
        for (int n = 0; n <= PROMISES; n++) {
            SECTIONS[n] = n == 0 ? ahead(whole) : promise(whole, n);
            NAMED[n] = new BitSet();
        }
    }

    private Document() {
    }

    private static String read() {
        try {
            return Files.readString(FILE).replaceAll("```(text)?|==== \\d\\.", " ").replaceAll("\\s+", " ");
        } catch (IOException e) {
            throw new IllegalStateException("no document at " + FILE.toAbsolutePath(), e);
        }
    }

    private static String between(String whole, String from, String to) {
        int start = whole.indexOf(from);
        int end = start < 0 ? -1 : whole.indexOf(to, start);
        if (end < 0) {
            throw new IllegalStateException("the document has no '" + from + "' ahead of '" + to + "'");
        }
        return whole.substring(start + from.length(), end).trim();
    }

    private static String ahead(String whole) {
        return "An object is used " + between(whole, "An object is used", "## The public face") + " "
                + between(whole, "## Terms", "## Promise 1:");
    }

    private static String promise(String whole, int n) {
        String section = between(whole, "## Promise " + n + ":", n == PROMISES ? "## Not promised" : "## Promise " + (n + 1) + ":");
        return section.substring(section.indexOf("`: ") + 3);
    }

    static void name(int promise, String sentence) {
        boolean stands = mark(promise, sentence) | mark(0, sentence);
        for (int n = 1; n < promise && sentence.contains(SO_BELOW); n++) {
            stands |= mark(n, sentence);
        }
        if (!stands) {
            Due.tell("the document has no such sentence for promise " + promise + ": " + sentence);
        }
    }

    private static boolean mark(int section, String sentence) {
        int at = SECTIONS[section].indexOf(sentence);
        if (at >= 0) {
            NAMED[section].set(at, at + sentence.length());
        }
        return at >= 0;
    }

    static void tellUnnamed() {
        for (int n = 0; n <= PROMISES; n++) {
            int at = 0;
            for (String sentence : SECTIONS[n].split("(?<=[.;])(?= )")) {
                int end = at + sentence.length();
                if (NAMED[n].get(at, end).isEmpty() && !sentence.trim().equals(FREE)) {
                    Due.tell((n == 0 ? "no test names, ahead of the promises: " : "no test names, of promise " + n + ": ") + sentence.trim());
                }
                at = end;
            }
        }
    }
}
