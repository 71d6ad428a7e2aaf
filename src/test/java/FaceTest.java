import java.io.IOException;
import java.lang.reflect.Constructor;
import java.lang.reflect.Field;
import java.lang.reflect.Method;
import java.lang.reflect.Modifier;
import java.nio.file.Files;
import java.nio.file.Path;
import java.util.Arrays;
import java.util.List;
import java.util.Map;
import java.util.Set;
import java.util.TreeSet;

/** The document's public face: every constant, the constructor, every method, and no other. */
public final class FaceTest {
    private static final Calls CALLS = new Calls("FaceTest");

    /** Each public method with the number of its int arguments, in the order of the promises 2 to 28. */
    private static final List<String> METHODS = List.of(("room2 near3 net2 scene4 guard3 open1 lift2 keep3 anew0 ofRoom2 "
        + "levelIn2 ofNet2 fault2 faults1 mend0 way3 step3 wipe0 stepAt2 judge2 stride3 plan2 key1 blank0 line0 text2 many1")
        .split(" "));

    public static void main(String[] args) throws IOException {
        theClass();
        methods();
        constants();
        asTheDocumentWritesIt();
        CALLS.end();
    }

    private static void theClass() {
        int modifiers = SleepingRooms.class.getModifiers();
        CALLS.holds("the class is public and final", Modifier.isPublic(modifiers) && Modifier.isFinal(modifiers));
        CALLS.holds("it has no package", SleepingRooms.class.getPackageName().isEmpty());
        CALLS.holds("it extends and implements nothing", SleepingRooms.class.getSuperclass() == Object.class
            && SleepingRooms.class.getInterfaces().length == 0);
        Constructor<?>[] constructors = SleepingRooms.class.getDeclaredConstructors();
        CALLS.holds("one public constructor (promise 1)", constructors.length == 1
            && Modifier.isPublic(constructors[0].getModifiers()) && constructors[0].getParameterCount() == 0);
    }

    private static void methods() {
        Set<String> seen = new TreeSet<>();
        for (Method m : SleepingRooms.class.getDeclaredMethods()) {
            if (Modifier.isPrivate(m.getModifiers())) {
                continue;
            }
            seen.add(m.getName() + m.getParameterCount());
            CALLS.holds(m + " is public", Modifier.isPublic(m.getModifiers()) && !Modifier.isStatic(m.getModifiers()));
            CALLS.holds(m + " answers an int", m.getReturnType() == int.class);
            CALLS.holds(m + " tells of no exception", m.getExceptionTypes().length == 0);
            for (Class<?> type : m.getParameterTypes()) {
                CALLS.holds(m + " takes ints", type == int.class);
            }
        }
        CALLS.holds("the methods are " + seen, seen.equals(new TreeSet<>(METHODS)));
    }

    private static void constants() {
        CALLS.due("constants", "UNKNOWN", SleepingRooms.UNKNOWN, -1);
        CALLS.due("constants", "OUTSIDE", SleepingRooms.OUTSIDE, -2);
        CALLS.due("constants", "STATE", SleepingRooms.STATE, -3);
        CALLS.due("constants", "FULL", SleepingRooms.FULL, -4);
        CALLS.due("constants", "NONE", SleepingRooms.NONE, -9);
        Set<String> seen = new TreeSet<>();
        for (Field f : SleepingRooms.class.getDeclaredFields()) {
            if (!Modifier.isPrivate(f.getModifiers())) {
                seen.add(f.getName());
                CALLS.holds(f + " is a constant", Modifier.isPublic(f.getModifiers())
                    && Modifier.isStatic(f.getModifiers()) && Modifier.isFinal(f.getModifiers()) && f.getType() == int.class);
            }
        }
        CALLS.holds("the constants are " + seen,
            seen.equals(new TreeSet<>(Arrays.asList("UNKNOWN", "OUTSIDE", "STATE", "FULL", "NONE"))));
    }

    /** Each line of the face, and each promise's signature, stands in the class with the same names of arguments. */
    private static void asTheDocumentWritesIt() throws IOException {
        Document document = Document.shared();
        String source = Files.readString(Path.of("src/main/java/SleepingRooms.java"));
        int bodies = 0;
        for (String line : document.face()) {
            boolean isConstant = line.contains("=");
            bodies += isConstant ? 0 : 1;
            CALLS.holds("the class has " + line, source.contains("\n    " + (isConstant ? line : line.replace(";", " {\n"))));
        }
        for (Map.Entry<Integer, String> promise : document.signatures().entrySet()) {
            CALLS.holds("promise " + promise.getKey() + ": " + promise.getValue(),
                source.contains("\n    public " + promise.getValue() + " {\n"));
        }
        if (document.isThere()) {
            CALLS.due("the document", "constructor and methods", bodies, METHODS.size() + 1);
            CALLS.due("the document", "signatures", document.signatures().size(), METHODS.size() + 1);
        }
    }
}
