import java.io.IOException;
import java.nio.file.Files;
import java.nio.file.Path;
import java.util.ArrayList;
import java.util.List;
import java.util.regex.Matcher;
import java.util.regex.Pattern;

/** The document's own words: what a test cites must stand there, and what no test cites is told. */
final class Document {
    private static final int PROMISES = 56;

    /** A stretch of the document and which of its signs some test has cited. */
    private static final class Part {
        final String name;
        final String words;
        final boolean[] cited;

        Part(String name, String words) {
            this.name = name;
            this.words = words;
            cited = new boolean[words.length()];
        }

        boolean cite(String sentence) {
            boolean found = false;
            for (int at = words.indexOf(sentence); at >= 0; at = words.indexOf(sentence, at + 1)) {
                java.util.Arrays.fill(cited, at, at + sentence.length(), true);
                found = true;
            }
            return found;
        }

        void tellUncited(List<String> into) {
            StringBuilder open = new StringBuilder();
            for (int i = 0; i <= words.length(); i++) {
                if (i < words.length() && !cited[i]) {
                    open.append(words.charAt(i));
                } else {
                    if (open.chars().anyMatch(Character::isLetterOrDigit)) into.add(name + ": '" + open.toString().strip() + "'");
                    open.setLength(0);
                }
            }
        }
    }

    private final List<Part> common = new ArrayList<>();
    private final List<Part> promises = new ArrayList<>();

    Document() {
        String text = read().replaceAll("```\\w*", " ").replaceAll("==== \\d\\.", " ").replaceAll("\\s+", " ");
        common.add(new Part("What it is", cut(text, "An object is used for", "## The public face")));
        common.add(new Part("Terms", cut(text, "A FAMILY is a text", "## Promise 1:")));
        for (int n = 1; n <= PROMISES; n++) {
            String end = n < PROMISES ? "## Promise " + (n + 1) + ":" : "## Not promised";
            String whole = cut(text, "## Promise " + n + ":", end);
            Matcher body = Pattern.compile("^## Promise \\d+: .*? `[^`]*`: (.*)$").matcher(whole);
            if (!body.matches()) throw new IllegalStateException("promise " + n + " is not read: " + whole);
            promises.add(new Part("Promise " + n, body.group(1)));
        }
    }

    private static String read() {
        try {
            return Files.readString(Path.of("../shared/DOC.md"));
        } catch (IOException e) {
            throw new IllegalStateException("no document", e);
        }
    }

    private static String cut(String text, String from, String to) {
        int begin = text.indexOf(from);
        int end = text.indexOf(to, begin);
        if (begin < 0 || end < 0) throw new IllegalStateException("the document has no '" + from + "' ahead of '" + to + "'");
        return text.substring(begin, end).strip();
    }

    /** Whether the sentence stands in the promise or in what all promises share. */
    boolean cite(int promise, String sentence) {
        boolean found = promise >= 1 && promise <= PROMISES && promises.get(promise - 1).cite(sentence);
        for (Part part : common) found |= part.cite(sentence);
        return found;
    }

    /** The stretches of the document that nobody has cited. */
    List<String> uncited() {
        List<String> all = new ArrayList<>();
        for (Part part : common) part.tellUncited(all);
        for (Part part : promises) part.tellUncited(all);
        return all;
    }
}
