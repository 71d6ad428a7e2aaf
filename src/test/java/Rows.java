import java.util.ArrayList;
import java.util.Arrays;
import java.util.List;
import java.util.TreeSet;
import java.util.regex.Matcher;
import java.util.regex.Pattern;

/**
 * Writes out short rows as single calls in the form of {@link Calls}:
 *
 * <pre>
 * room(0..5, 0) = 0             a call for each of the values 0 to 5
 * net(0, 1) = 0..15             sixteen calls, which answer 0, 1, .. 15
 * room(!0..5, 0) = UNKNOWN      a call for the values beside 0 to 5, and for the extreme ones
 * way(0, 1, !0..5|NONE) = ..    the same, but not for NONE
 * way(0, 2, ..) = 0 1 2         the whole sequence: its length, each index, and NONE behind it ("none": no sequence)
 * judge(0, ..) = 1 5 0 2 63 0 0 the answers to what = 0 to 6
 * text(0, ..) = 'a&gt;b - none '   the whole text: its length, each character, and NONE behind it
 * steps = 0 1 0, 4 1 2          the whole script
 * </pre>
 */
final class Rows {
    private static final Pattern RANGE = Pattern.compile("(!?)(-?\\d+)\\.\\.(-?\\d+)((?:\\|\\w+)?)");
    private static final Pattern PLAIN = Pattern.compile("(\\w+)\\(([^)]*)\\) = (\\S+)");
    private static final Pattern SEQUENCE = Pattern.compile("(way|stride)\\((-?\\d+), (-?\\d+), \\.\\.\\) = (.*)");
    private static final Pattern JUDGED = Pattern.compile("judge\\((\\d+), \\.\\.\\) = (.*)");
    private static final Pattern TEXT = Pattern.compile("text\\((\\d+), \\.\\.\\) = '(.*)'");

    private Rows() {
    }

    static List<String> all(String... rows) {
        List<String> calls = new ArrayList<>();
        for (String row : rows) {
            for (String part : row.split(";")) {
                if (!part.isBlank()) {
                    calls.addAll(written(part.trim()));
                }
            }
        }
        return calls;
    }

    private static List<String> written(String row) {
        Matcher sequence = SEQUENCE.matcher(row);
        Matcher judged = JUDGED.matcher(row);
        Matcher text = TEXT.matcher(row);
        if (sequence.matches()) {
            return sequence(sequence.group(1), sequence.group(2) + ", " + sequence.group(3), sequence.group(4));
        }
        if (judged.matches()) {
            return judged(judged.group(1), judged.group(2).split(" "));
        }
        if (text.matches()) {
            return text(text.group(1), text.group(2));
        }
        if (row.startsWith("steps = ")) {
            return steps(row.substring("steps = ".length()).split(", "));
        }
        return row.startsWith("'") ? List.of(row) : plain(row);
    }

    private static List<String> sequence(String method, String ends, String places) {
        String[] due = places.equals("none") ? new String[0] : places.split(" ");
        int most = method.equals("way") ? 6 : 8;
        List<String> calls = new ArrayList<>();
        calls.add(method + "(" + ends + ", NONE) = " + (due.length == 0 ? "NONE" : due.length));
        for (int k = 0; k < most; k++) {
            calls.add(method + "(" + ends + ", " + k + ") = " + (k < due.length ? due[k] : "NONE"));
        }
        return calls;
    }

    private static List<String> judged(String scene, String[] due) {
        if (due.length != 7) {
            throw new IllegalStateException("judge has seven answers, not " + Arrays.toString(due));
        }
        List<String> calls = new ArrayList<>();
        for (int what = 0; what < 7; what++) {
            calls.add("judge(" + scene + ", " + what + ") = " + due[what]);
        }
        return calls;
    }

    private static List<String> text(String net, String due) {
        List<String> calls = new ArrayList<>();
        calls.add("text(" + net + ", -1) = " + due.length());
        for (int i = 0; i < due.length(); i++) {
            calls.add("text(" + net + ", " + i + ") = " + (int) due.charAt(i));
        }
        for (int i = due.length(); i < 40; i++) {
            calls.add("text(" + net + ", " + i + ") = NONE");
        }
        return calls;
    }

    private static List<String> steps(String[] due) {
        List<String> calls = new ArrayList<>();
        calls.add("many(3) = " + due.length);
        for (int k = 0; k < due.length; k++) {
            String[] parts = due[k].split(" ");
            for (int what = 0; what < 3; what++) {
                calls.add("stepAt(" + k + ", " + what + ") = " + parts[what]);
            }
        }
        calls.add("stepAt(" + due.length + ", 0) = UNKNOWN");
        return calls;
    }

    private static List<String> plain(String row) {
        Matcher call = PLAIN.matcher(row);
        if (!call.matches()) {
            throw new IllegalStateException("not a row: " + row);
        }
        Matcher argument = RANGE.matcher(call.group(2));
        Matcher answer = RANGE.matcher(call.group(3));
        boolean counted = answer.matches();
        List<Integer> answers = counted ? values(answer) : List.of();
        if (!argument.find()) {
            List<String> calls = new ArrayList<>();
            for (int due : answers) {
                calls.add(call.group(1) + "(" + call.group(2) + ") = " + due);
            }
            return counted ? calls : List.of(row);
        }
        List<Integer> arguments = values(argument);
        if (counted && answers.size() != arguments.size()) {
            throw new IllegalStateException("as many answers as arguments, " + arguments.size() + ": " + row);
        }
        List<String> calls = new ArrayList<>();
        for (int i = 0; i < arguments.size(); i++) {
            String list = call.group(2).substring(0, argument.start()) + arguments.get(i)
                + call.group(2).substring(argument.end());
            calls.addAll(plain(call.group(1) + "(" + list + ") = " + (counted ? "" + answers.get(i) : call.group(3))));
        }
        return calls;
    }

    private static List<Integer> values(Matcher range) {
        int low = Integer.parseInt(range.group(2));
        int high = Integer.parseInt(range.group(3));
        if (!range.group(1).isEmpty()) {
            return beside(low, high, range.group(4));
        }
        List<Integer> inside = new ArrayList<>();
        for (int value = low; value <= high; value++) {
            inside.add(value);
        }
        return inside;
    }

    /** The neighbours of the range, the extreme ints, and what looks allowed where bits are lost. */
    private static List<Integer> beside(int low, int high, String except) {
        TreeSet<Integer> values = new TreeSet<>(List.of(Integer.MIN_VALUE, Integer.MIN_VALUE + 1, Integer.MIN_VALUE + high,
            low - 65536, low - 256, low - 32, low - 10, low - 9, low - 8, low - 4, low - 3, low - 2, low - 1, high + 1,
            high + 2, low + 8, low + 16, low + 32, high + 32, low + 64, low + 128, low + 256, low + 65536,
            Integer.MAX_VALUE - 1, Integer.MAX_VALUE));
        values.removeIf(value -> value >= low && value <= high);
        if (!except.isEmpty()) {
            values.remove(Calls.number(except.substring(1)));
        }
        return new ArrayList<>(values);
    }
}
