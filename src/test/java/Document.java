import java.io.IOException;
import java.nio.file.Files;
import java.nio.file.Path;
import java.util.ArrayList;
import java.util.List;
import java.util.Map;
import java.util.TreeMap;
import java.util.regex.Matcher;
import java.util.regex.Pattern;

/** The document's text: its parts, whether it says a sentence, and which sentences have not been quoted yet. */
final class Document {
    private static final Pattern PROMISE = Pattern.compile("(?s)## Promise (\\d+): [^\n]*\n(.*?)(?=\n## )");
    private static final Pattern EXAMPLE = Pattern.compile("\n(\\d)\\. ([^:]*): ([^\n]*)\\.(?=\n)");

    /** A sentence of the beginning or of the description (promise 0), or a part of a promise's own section. */
    private record Unit(int promise, String text) {
        boolean meets(Unit quote) {
            return quote.promise == promise && (quote.text.contains(text) || text.contains(quote.text));
        }
    }

    private final boolean there;
    private final String whole;
    private final String description;
    private final Map<Integer, String> sections = new TreeMap<>();
    private final Map<Integer, String> signatures = new TreeMap<>();
    private final List<Unit> units = new ArrayList<>();
    private final List<Unit> quotes = new ArrayList<>();

    /** Where the document is not at hand, the calls are still run, but no quote can be compared. */
    Document(Path file) throws IOException {
        there = Files.isReadable(file);
        whole = there ? Files.readString(file) : "";
        String told = between("## What it is", "## The public face") + "\n\n" + between("## Description", "Examples: ");
        description = plain(told);
        for (String part : told.split("\n\\s*\n|\n(?=- )|\n(?=\\d: )")) {
            for (String sentence : plain(part).split("(?<=[.;:])\\s+")) {
                addUnit(0, sentence);
            }
        }
        Matcher section = PROMISE.matcher(whole);
        while (section.find()) {
            addSection(Integer.parseInt(section.group(1)), section.group(2));
        }
    }

    static Document shared() throws IOException {
        return new Document(Path.of("../shared/DOC.md"));
    }

    private void addSection(int promise, String text) {
        sections.put(promise, plain(text));
        for (String row : text.split("\n")) {
            if (row.startsWith("`")) {
                signatures.put(promise, row.replace("`", "").trim());
            }
            boolean isHeading = row.startsWith("`") || row.startsWith("----");
            for (String part : isHeading ? new String[0] : plain(row).split("(?<=;)\\s+")) {
                addUnit(promise, part);
            }
        }
    }

    /** The number of a reason alone, or nothing, is no sentence. */
    private void addUnit(int promise, String text) {
        if (!text.isBlank() && !text.matches("\\d:")) {
            units.add(new Unit(promise, text.replaceFirst("^- ", "").replaceFirst("[.;:]$", "")));
        }
    }

    private String between(String begin, String end) {
        int from = whole.indexOf(begin);
        int to = from < 0 ? -1 : whole.indexOf(end, from);
        return to < 0 ? "" : whole.substring(from + begin.length(), to);
    }

    private static String plain(String text) {
        return text.replaceAll("\\s+", " ").trim();
    }

    boolean isThere() {
        return there;
    }

    int promises() {
        return sections.size();
    }

    /** The lines of the public face, without the class itself. */
    List<String> face() {
        List<String> lines = new ArrayList<>();
        String all = between("## The public face", "## Description");
        for (String line : all.split("\n")) {
            if (line.startsWith("    public")) {
                lines.add(line.trim());
            }
        }
        return lines;
    }

    /** The signature that stands above each promise. */
    Map<Integer, String> signatures() {
        return signatures;
    }

    /** The examples' calls, with their answers, by the examples' numbers. */
    Map<Integer, String> examples() {
        Map<Integer, String> found = new TreeMap<>();
        Matcher example = EXAMPLE.matcher(between("Examples: ", "The constructor and the methods follow"));
        while (example.find()) {
            found.put(Integer.parseInt(example.group(1)), example.group(3));
        }
        return found;
    }

    /** Whether the description or the promise's own section has the sentence, which is quoted by this. */
    boolean says(int promise, String sentence) {
        boolean own = sections.getOrDefault(promise, "").contains(sentence);
        boolean described = description.contains(sentence);
        if (own) {
            quotes.add(new Unit(promise, sentence));
        }
        if (described) {
            quotes.add(new Unit(0, sentence));
        }
        return own || described || !there;
    }

    List<String> notQuoted() {
        List<String> left = new ArrayList<>();
        for (Unit unit : units) {
            if (quotes.stream().noneMatch(unit::meets)) {
                left.add((unit.promise == 0 ? "Description" : "Promise " + unit.promise) + ": " + unit.text);
            }
        }
        return left;
    }
}
