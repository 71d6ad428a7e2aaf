import java.io.IOException;
import java.lang.reflect.Field;
import java.lang.reflect.Method;
import java.lang.reflect.Modifier;
import java.nio.file.Files;
import java.nio.file.Path;
import java.util.List;
import java.util.regex.Matcher;
import java.util.regex.Pattern;
import java.util.stream.Stream;

/** README.md tells the truth: its example answers as it says, and it names every method, constant and test. */
public final class ReadmeTest {
    private static final Calls CALLS = new Calls("ReadmeTest");
    private static final Pattern CALL = Pattern.compile("x\\.(\\w+)\\(([^)]*)\\);\\s+// ([^:]+)(:.*)?");
    private static final Pattern TYPED = Pattern.compile("for \\(char code : \"([^\"]*)\"\\.toCharArray\\(\\)\\) \\{");

    public static void main(String[] args) throws IOException {
        String readme = Files.readString(Path.of("README.md"));
        example(readme);
        methods(readme);
        constants(readme);
        tests(readme);
        CALLS.end();
    }

    /** A call stands with its answer in a line; a text is typed by a loop of three lines. */
    private static void example(String readme) {
        String code = readme.substring(readme.indexOf("```java\n") + 8, readme.indexOf("```\n", readme.indexOf("```java\n") + 8));
        SleepingRooms x = new SleepingRooms();
        int calls = 0;
        for (String row : code.split("\n")) {
            Matcher call = CALL.matcher(row);
            Matcher typed = TYPED.matcher(row);
            if (call.matches()) {
                String arguments = call.group(2).replace("SleepingRooms.", "");
                CALLS.on(x, "the example", call.group(1) + "(" + arguments + ") = " + call.group(3).trim());
                calls++;
            } else if (typed.matches()) {
                typed.group(1).chars().forEach(x::key);
            } else {
                CALLS.holds("the example has a row without an answer: " + row,
                    row.isEmpty() || row.startsWith("// ") || row.equals("SleepingRooms x = new SleepingRooms();")
                        || row.equals("    x.key(code);") || row.equals("}"));
            }
        }
        CALLS.holds("the example has calls", calls > 30);
        CALLS.holds("the example's text", textOf(x, 0).equals(between(code, "The text of net 0 is \"", "\"")));
    }

    private static String textOf(SleepingRooms x, int net) {
        StringBuilder text = new StringBuilder();
        for (int i = 0; i < x.text(net, -1); i++) {
            text.append((char) x.text(net, i));
        }
        return text.toString();
    }

    private static String between(String text, String begin, String end) {
        int from = text.indexOf(begin) + begin.length();
        return text.substring(from, text.indexOf(end, from));
    }

    /** Each method stands in a table, with as many arguments as it takes. */
    private static void methods(String readme) {
        for (Method m : SleepingRooms.class.getDeclaredMethods()) {
            if (Modifier.isPublic(m.getModifiers())) {
                String arguments = "\\w+, ".repeat(m.getParameterCount()).replaceFirst(", $", "");
                CALLS.holds("README.md tells of " + m.getName(),
                    Pattern.compile("\\| `" + m.getName() + "\\(" + arguments + "\\)`").matcher(readme).find());
            }
        }
    }

    private static void constants(String readme) {
        for (Field f : SleepingRooms.class.getDeclaredFields()) {
            if (Modifier.isPublic(f.getModifiers())) {
                int value = Calls.number(f.getName());
                CALLS.holds("README.md tells of " + f.getName(), readme.contains("| `" + f.getName() + "` | " + value + " |"));
            }
        }
    }

    private static void tests(String readme) throws IOException {
        List<String> names;
        try (Stream<Path> files = Files.list(Path.of("src/test/java"))) {
            names = files.map(file -> file.getFileName().toString().replace(".java", "")).filter(n -> n.endsWith("Test")).toList();
        }
        for (String name : names) {
            CALLS.holds("README.md tells of " + name, readme.contains("| `" + name + "` |"));
        }
        Matcher told = Pattern.compile("\\| `(\\w+Test)` \\|").matcher(readme);
        while (told.find()) {
            CALLS.holds("there is a " + told.group(1), names.contains(told.group(1)));
        }
    }
}
