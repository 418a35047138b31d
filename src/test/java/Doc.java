import java.nio.file.Files;
import java.nio.file.Path;
import java.util.ArrayList;
import java.util.List;

/** The sentences of the document that tests quote: each has answers behind it, and none is left out. */
final class Doc {
    /** The number of the section 'Terms', ahead of the promises. */
    static final int TERMS = 0;
    private static final int PROMISES = 38;

    private record Quote(int section, String words) {
    }

    private static final List<Quote> QUOTES = new ArrayList<>();
    private static int lookedAtQuote;

    private Doc() {
    }

    /** The answers that are looked at from here on are due by these words of a section. */
    static void says(int section, String words) {
        close();
        QUOTES.add(new Quote(section, words));
        Checks.quote(words);
        lookedAtQuote = Checks.looked();
    }

    private static void close() {
        if (!QUOTES.isEmpty()) {
            Quote last = QUOTES.get(QUOTES.size() - 1);
            boolean seen = Checks.looked() > lookedAtQuote;
            Checks.quote("");
            Checks.holds("answers behind '" + last.words() + "'", seen);
        }
    }

    /** That the document has each quote in its section, and no words that nobody quotes. */
    static void compare(Path file) throws Exception {
        close();
        if (!Files.exists(file)) {
            System.out.println("no document at " + file + ": the quotes are not compared with it");
            return;
        }
        String[] left = sections(Files.readString(file));
        for (Quote quote : QUOTES) {
            boolean has = left[quote.section()].contains(quote.words());
            Checks.holds("section " + quote.section() + " has '" + quote.words() + "'", has);
        }
        // Long ones first, so that a short one doesn't cut them.
        List<Quote> long1st = new ArrayList<>(QUOTES);
        long1st.sort((one, other) -> other.words().length() - one.words().length());
        for (Quote quote : long1st) {
            left[quote.section()] = left[quote.section()].replace(quote.words(), " ");
        }
        for (int section = 0; section <= PROMISES; section++) {
            String rest = left[section].replaceAll("[^A-Za-z0-9]+", " ").trim();
            Checks.holds("section " + section + ", not quoted: " + rest, rest.isEmpty());
        }
    }

    /** The words of 'Terms' and of each promise, without headings and signatures, on one line each. */
    private static String[] sections(String text) {
        String[] sections = new String[PROMISES + 1];
        sections[TERMS] = between(text, "## Terms\n", "## Promise 1:")
            .replaceAll("(?m)^Ahead of the calls.*the interface says:", " ")
            .replaceAll("(?m)^======== \\d", " ")
            .replaceAll("```(text)?", " ");
        for (int n = 1; n <= PROMISES; n++) {
            String end = n < PROMISES ? "## Promise " + (n + 1) + ":" : "## Not promised";
            sections[n] = between(text, "## Promise " + n + ":", end).replaceAll("(?s)^.*?\n\n`[^`]*`: ", "");
        }
        for (int n = 0; n <= PROMISES; n++) {
            sections[n] = sections[n].replaceAll("\\s+", " ");
        }
        return sections;
    }

    private static String between(String text, String from, String to) {
        int start = text.indexOf(from);
        int end = text.indexOf(to);
        Checks.holds("the document has '" + from.trim() + "' .. '" + to + "'", start >= 0 && end > start);
        return start >= 0 && end > start ? text.substring(start + from.length(), end) : "";
    }
}
