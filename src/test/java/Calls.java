import java.lang.reflect.Method;
import java.util.HashMap;
import java.util.Map;
import java.util.regex.Matcher;
import java.util.regex.Pattern;

/**
 * Runs calls that are written as the document writes them: "scene(1, 0, 0, 0) = 0; fault(0, 0) = 1".
 * A text in quotes stands for a line that is typed on an emptied tape: "'net 0 1' = 1000".
 */
final class Calls {
    private static final Pattern CALL = Pattern.compile("(\\w+)\\(([^)]*)\\) = (\\S+)");
    private static final Pattern LINE = Pattern.compile("'([^']*)' = (\\S+)");
    private static final Map<String, Method> METHODS = methods();

    private final String test;
    private int made;
    private int wrong;

    Calls(String test) {
        this.test = test;
    }

    /** Runs the calls on a new object, and hands it out for more. */
    SleepingRooms fresh(String name, String... rows) {
        SleepingRooms x = new SleepingRooms();
        on(x, name, rows);
        return x;
    }

    void on(SleepingRooms x, String name, String... rows) {
        for (String row : rows) {
            for (String call : row.split(";")) {
                if (!call.isBlank()) {
                    one(x, name, call.trim());
                }
            }
        }
    }

    private void one(SleepingRooms x, String name, String text) {
        Call call = Call.of(text);
        due(name, text, call.made(x), call.due);
    }

    /** One call with the answer that is due; or a line that is typed, which has no method. */
    static final class Call {
        final String method;
        final String line;
        final int due;
        private final Object[] arguments;

        private Call(String method, Object[] arguments, String line, int due) {
            this.method = method;
            this.arguments = arguments;
            this.line = line;
            this.due = due;
        }

        static Call of(String text) {
            Matcher line = LINE.matcher(text);
            if (line.matches()) {
                return new Call(null, null, line.group(1), number(line.group(2)));
            }
            Matcher plain = CALL.matcher(text);
            if (!plain.matches()) {
                throw new IllegalStateException("not a call: " + text);
            }
            return new Call(plain.group(1), numbers(plain.group(2)), null, number(plain.group(3)));
        }

        boolean isTyped() {
            return line != null;
        }

        /** How many calls of the object it takes: a typed line takes blank, its keys, and line. */
        int count() {
            return isTyped() ? line.length() + 2 : 1;
        }

        int made(SleepingRooms x) {
            return isTyped() ? typed(x, line) : ask(x, method, arguments);
        }
    }

    void due(String name, String call, int got, int want) {
        made++;
        if (got != want) {
            wrong++;
            System.out.println(test + ", " + name + ": " + call + " answered " + got + ", due is " + want);
        }
    }

    void holds(String name, boolean fact) {
        due(name, "holds", fact ? 1 : 0, 1);
    }

    static int typed(SleepingRooms x, String text) {
        type(x, text);
        return x.line();
    }

    static void type(SleepingRooms x, String text) {
        x.blank();
        for (char code : text.toCharArray()) {
            x.key(code);
        }
    }

    static int ask(Object target, String method, Object... arguments) {
        try {
            Method m = target instanceof SleepingRooms ? METHODS.get(method) : find(target.getClass(), method);
            return (Integer) m.invoke(target, arguments);
        } catch (ReflectiveOperationException e) {
            throw new IllegalStateException(method + " failed", e);
        }
    }

    private static Method find(Class<?> type, String name) {
        for (Method m : type.getDeclaredMethods()) {
            if (m.getName().equals(name)) {
                return m;
            }
        }
        throw new IllegalStateException("no method " + name);
    }

    private static Map<String, Method> methods() {
        Map<String, Method> found = new HashMap<>();
        for (Method m : SleepingRooms.class.getDeclaredMethods()) {
            found.put(m.getName(), m);
        }
        return found;
    }

    private static Object[] numbers(String list) {
        if (list.isBlank()) {
            return new Object[0];
        }
        String[] parts = list.split(",");
        Object[] values = new Object[parts.length];
        for (int i = 0; i < parts.length; i++) {
            values[i] = number(parts[i].trim());
        }
        return values;
    }

    static int number(String word) {
        switch (word) {
            case "UNKNOWN": return SleepingRooms.UNKNOWN;
            case "OUTSIDE": return SleepingRooms.OUTSIDE;
            case "STATE": return SleepingRooms.STATE;
            case "FULL": return SleepingRooms.FULL;
            case "NONE": return SleepingRooms.NONE;
            case "MIN": return Integer.MIN_VALUE;
            case "MAX": return Integer.MAX_VALUE;
            default: return Integer.parseInt(word);
        }
    }

    void end() {
        System.out.println(test + ": " + made + " answers, " + wrong + " wrong");
        if (wrong != 0) {
            System.exit(1);
        }
    }
}
