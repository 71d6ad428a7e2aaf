import java.io.IOException;
import java.lang.reflect.Constructor;
import java.lang.reflect.Field;
import java.lang.reflect.Method;
import java.lang.reflect.Modifier;
import java.nio.file.Files;
import java.nio.file.Path;
import java.util.Arrays;
import java.util.Set;
import java.util.TreeSet;
import java.util.regex.Pattern;

/** The document's public face, and those rules of LANGUAGE.md that a look at the class can tell. */
public final class RulesTest {
    private static final Calls CALLS = new Calls("RulesTest");

    /** Each public method with the number of its int arguments. */
    private static final String FACE = "room2 near3 net2 scene4 guard3 open1 lift2 keep3 anew0 ofRoom2 levelIn2 ofNet2 "
        + "fault2 faults1 mend0 way3 step3 wipe0 stepAt2 judge2 stride3 plan2 key1 blank0 line0 text2 many1";

    public static void main(String[] args) throws IOException {
        face();
        constants();
        namesOfPrivateMethods();
        classesInside();
        words();
        CALLS.end();
    }

    private static void face() {
        CALLS.holds("the class is public and final", Modifier.isPublic(SleepingRooms.class.getModifiers())
            && Modifier.isFinal(SleepingRooms.class.getModifiers()) && SleepingRooms.class.getPackageName().isEmpty());
        Set<String> seen = new TreeSet<>();
        for (Method m : SleepingRooms.class.getDeclaredMethods()) {
            if (Modifier.isPrivate(m.getModifiers())) {
                continue;
            }
            seen.add(m.getName() + m.getParameterCount());
            CALLS.holds(m + " is public", Modifier.isPublic(m.getModifiers()) && !Modifier.isStatic(m.getModifiers()));
            CALLS.holds(m + " answers an int", m.getReturnType() == int.class);
            for (Class<?> type : m.getParameterTypes()) {
                CALLS.holds(m + " takes ints", type == int.class);
            }
        }
        CALLS.holds("the methods are " + seen, seen.equals(new TreeSet<>(Arrays.asList(FACE.split(" ")))));
        Constructor<?>[] constructors = SleepingRooms.class.getDeclaredConstructors();
        CALLS.holds("one public constructor", constructors.length == 1
            && Modifier.isPublic(constructors[0].getModifiers()) && constructors[0].getParameterCount() == 0);
    }

    private static void constants() {
        CALLS.due("constants", "UNKNOWN", SleepingRooms.UNKNOWN, -1);
        CALLS.due("constants", "OUTSIDE", SleepingRooms.OUTSIDE, -2);
        CALLS.due("constants", "STATE", SleepingRooms.STATE, -3);
        CALLS.due("constants", "FULL", SleepingRooms.FULL, -4);
        CALLS.due("constants", "NONE", SleepingRooms.NONE, -9);
        Set<String> seen = new TreeSet<>();
        for (Field f : SleepingRooms.class.getDeclaredFields()) {
            if (!Modifier.isPrivate(f.getModifiers())) {
                seen.add(f.getName());
                CALLS.holds(f + " is a constant", Modifier.isPublic(f.getModifiers())
                    && Modifier.isStatic(f.getModifiers()) && f.getType() == int.class);
            }
            CALLS.holds(f + " static, then final", !Modifier.isStatic(f.getModifiers()) || Modifier.isFinal(f.getModifiers()));
        }
        CALLS.holds("the constants are " + seen,
            seen.equals(new TreeSet<>(Arrays.asList("UNKNOWN", "OUTSIDE", "STATE", "FULL", "NONE"))));
    }

    private static void namesOfPrivateMethods() {
        Set<String> open = new TreeSet<>();
        for (String entry : FACE.split(" ")) {
            open.add(entry.replaceAll("\\d", ""));
        }
        for (Method m : SleepingRooms.class.getDeclaredMethods()) {
            CALLS.holds(m + " bears no public name", Modifier.isPublic(m.getModifiers()) || !open.contains(m.getName()));
        }
        for (Class<?> inside : SleepingRooms.class.getDeclaredClasses()) {
            for (Method m : inside.getDeclaredMethods()) {
                CALLS.holds(m + " bears no public name", !open.contains(m.getName()));
                CALLS.holds(m + " takes at most seven", m.getParameterCount() <= 7);
            }
        }
    }

    private static void classesInside() {
        Class<?>[] inside = SleepingRooms.class.getDeclaredClasses();
        CALLS.holds("at most twelve classes", inside.length < 12);
        for (Class<?> type : inside) {
            CALLS.holds(type + " is static", Modifier.isStatic(type.getModifiers()));
            CALLS.holds(type + " is not open", !Modifier.isPublic(type.getModifiers()) && !Modifier.isProtected(type.getModifiers()));
            CALLS.holds(type + " has at most twenty fields", type.getDeclaredFields().length <= 20);
        }
    }

    private static void words() throws IOException {
        String source = Files.readString(Path.of("src/main/java/SleepingRooms.java"));
        String code = source.replaceAll("(?s)/\\*.*?\\*/", "").replaceAll("//[^\n]*", "");
        String[] forbidden = {"throw", "throws", "try", "catch", "finally", "synchronized", "assert", "import", "package",
            "volatile", "Object", "System", "Thread", "Random", "float", "double"};
        for (String word : forbidden) {
            CALLS.holds("no " + word, !Pattern.compile("\\b" + word + "\\b").matcher(code).find());
        }
        CALLS.holds("no lambda and no method reference", !code.contains("->") && !code.contains("::"));
        CALLS.holds("no function that throws", !code.contains("Exact("));
        CALLS.holds("plain signs alone", source.chars().allMatch(c -> c == '\n' || c >= 32 && c < 127));
    }
}
