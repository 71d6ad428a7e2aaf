import java.io.IOException;
import java.nio.file.Files;
import java.nio.file.Path;
import java.util.ArrayList;
import java.util.List;
import java.util.Map;
import java.util.TreeMap;
import java.util.regex.Matcher;
import java.util.regex.Pattern;

/** The document's text: whether it says a sentence, and which of its sentences have not been quoted yet. */
final class Document {
    private static final Pattern PROMISE = Pattern.compile("(?s)## Promise (\\d+): [^\n]*\n(.*?)(?=\n## )");

    /** A sentence of the description (promise 0), or a part of a promise's own section. */
    private record Unit(int promise, String text) {
        boolean meets(Unit quote) {
            return quote.promise == promise && (quote.text.contains(text) || text.contains(quote.text));
        }
    }

    private final boolean there;
    private final String description;
    private final Map<Integer, String> sections = new TreeMap<>();
    private final List<Unit> units = new ArrayList<>();
    private final List<Unit> quotes = new ArrayList<>();

    /** Where the document is not at hand, the calls are still run, but no quote can be compared. */
    Document(Path file) throws IOException {
        there = Files.isReadable(file);
        String whole = there ? Files.readString(file) : "## Description Examples: ";
        String middle = between(whole, "## Description", "Examples: ");
        description = plain(middle);
        for (String part : middle.split("\n\\s*\n|\n(?=- )|\n(?=\\d: )")) {
            for (String sentence : plain(part).split("(?<=[.;:])\\s+")) {
                addUnit(0, sentence);
            }
        }
        Matcher section = PROMISE.matcher(whole);
        while (section.find()) {
            addSection(Integer.parseInt(section.group(1)), section.group(2));
        }
    }

    private void addSection(int promise, String text) {
        sections.put(promise, plain(text));
        for (String row : text.split("\n")) {
            boolean isHeading = row.startsWith("`") || row.startsWith("----");
            for (String part : isHeading ? new String[0] : plain(row).split("(?<=;)\\s+")) {
                addUnit(promise, part);
            }
        }
    }

    /** The number of a reason alone, or nothing, is no sentence. */
    private void addUnit(int promise, String text) {
        if (!text.isBlank() && !text.matches("\\d:")) {
            units.add(new Unit(promise, text.replaceFirst("^- ", "").replaceFirst("[.;:]$", "")));
        }
    }

    private static String between(String whole, String begin, String end) {
        return whole.substring(whole.indexOf(begin) + begin.length(), whole.indexOf(end));
    }

    private static String plain(String text) {
        return text.replaceAll("\\s+", " ").trim();
    }

    boolean isThere() {
        return there;
    }

    int promises() {
        return sections.size();
    }

    /** Whether the description or the promise's own section has the sentence, which is quoted by this. */
    boolean says(int promise, String sentence) {
        boolean own = sections.getOrDefault(promise, "").contains(sentence);
        boolean described = description.contains(sentence);
        if (own) {
            quotes.add(new Unit(promise, sentence));
        }
        if (described) {
            quotes.add(new Unit(0, sentence));
        }
        return own || described || !there;
    }

    List<String> notQuoted() {
        List<String> left = new ArrayList<>();
        for (Unit unit : units) {
            if (quotes.stream().noneMatch(unit::meets)) {
                left.add((unit.promise == 0 ? "Description" : "Promise " + unit.promise) + ": " + unit.text);
            }
        }
        return left;
    }
}
