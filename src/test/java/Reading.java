import java.io.IOException;
import java.nio.file.Files;
import java.nio.file.Path;

/**
 * Goes through a part of the document in its own words and order, so that no sentence stays without its tests, or
 * without a word that it names no edge, and so that a sentence that is changed is found by the tests that quote it.
 */
final class Reading {
    private static final Path DOC = Path.of("../shared/DOC.md");

    private final Check check;
    /** The part as one line; empty if there is no document here: then the words are taken as they are quoted. */
    private final String part;
    private int spot = 0;
    private String latest = "";
    /** How many answers were asked ahead of the latest words; -1: they need none. */
    private int askedAhead = -1;

    Reading(Check check, String from, String upTo) {
        this.check = check;
        part = part(from, upTo);
        if (part.isEmpty()) System.out.println("no " + DOC + " here: the quoted words are not looked up");
    }

    private static String part(String from, String upTo) {
        if (!Files.isReadable(DOC)) return "";
        try {
            String all = Files.readString(DOC).replaceAll("```[a-z]*", " ").replaceAll("\\s+", " ");
            int start = all.indexOf(from);
            int end = all.indexOf(upTo, start + 1);
            return start < 0 || end < 0 ? from + " .. " + upTo + " is not in the document" : all.substring(start, end).trim();
        } catch (IOException e) {
            return "";
        }
    }

    /** The next words of the document, which name an edge: tests of it follow. */
    void edge(String words) {
        goOn(words);
        askedAhead = check.asked();
    }

    /** The next words of the document, which name no edge. */
    void noEdge(String words) {
        goOn(words);
        askedAhead = -1;
    }

    private void goOn(String words) {
        leave();
        check.under(words);
        latest = words;
        if (part.isEmpty()) return;
        check.due("do these words of DOC.md stand next", part.startsWith(words, spot) ? 1 : 0, 1);
        int at = part.indexOf(words, spot);
        if (at >= 0) spot = at + words.length();
        while (spot < part.length() && part.charAt(spot) == ' ') spot++;
    }

    private void leave() {
        if (askedAhead < 0) return;
        check.due("has \"" + latest + "\" a test of its own", check.asked() > askedAhead ? 1 : 0, 1);
    }

    void end() {
        leave();
        askedAhead = -1;
        check.under("the end");
        check.due("how much of DOC.md's part was read", spot, part.length());
    }
}
