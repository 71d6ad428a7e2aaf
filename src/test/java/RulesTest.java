import com.sun.source.tree.BinaryTree;
import com.sun.source.tree.BlockTree;
import com.sun.source.tree.ClassTree;
import com.sun.source.tree.DoWhileLoopTree;
import com.sun.source.tree.ExpressionTree;
import com.sun.source.tree.ForLoopTree;
import com.sun.source.tree.NewClassTree;
import com.sun.source.tree.Tree;
import com.sun.source.tree.Tree.Kind;
import com.sun.source.tree.VariableTree;
import com.sun.source.tree.WhileLoopTree;
import java.io.IOException;
import java.lang.reflect.Array;
import java.lang.reflect.Field;
import java.lang.reflect.Modifier;
import java.nio.file.Files;
import java.nio.file.Path;
import java.util.IdentityHashMap;
import java.util.List;
import java.util.Map;
import java.util.Set;

/** The thirteen rules of LANGUAGE.md, as far as the program's text and one object tell. */
public final class RulesTest {
    private static final Calls CALLS = new Calls("RulesTest");
    private static final Path PROGRAM = Path.of("src/main/java/SleepingRooms.java");

    private static final Set<String> FACE = Set.of("room", "near", "net", "scene", "guard", "open", "lift", "keep", "anew",
        "ofRoom", "levelIn", "ofNet", "fault", "faults", "mend", "way", "step", "wipe", "stepAt", "judge", "stride", "plan",
        "key", "blank", "line", "text", "many");

    /** What rule 4 allows of the library, but for lists and builders, which the program does without. */
    private static final String LIBRARY = "String\\.(length|charAt|isEmpty|equals|indexOf|substring|toCharArray)"
        + "|(Math|Integer|Long)\\.(?!\\w*Exact$)\\w+|System\\.arraycopy|Arrays\\.(copyOf|copyOfRange|fill)";

    private final Source source;

    private RulesTest(Source source) {
        this.source = source;
    }

    public static void main(String[] args) throws IOException {
        plainSigns();
        sizeOfAnObject();
        Source source = Source.of(PROGRAM);
        if (source == null) {
            System.out.println("RulesTest: there is no compiler at hand, so that the program's text was not looked at");
        } else {
            new RulesTest(source).all();
        }
        CALLS.end();
    }

    private void all() {
        CALLS.holds("compiles without a word: " + source.problems, source.problems.isEmpty());
        rule1Names();
        rule2Classes();
        rule3Types();
        none(4, source.libraryCalls.stream().filter(call -> !call.matches(LIBRARY)).toList());
        none(4, source.of(Kind.IMPORT, Kind.PACKAGE));
        rule5StaticFields();
        rule6Words();
        rule7NothingThrows();
        rule8Recursion();
        rule9Loops();
        none(10, source.of(Kind.PLUS, Kind.PLUS_ASSIGNMENT).stream().filter(piece -> isText(piece, piece.tree())).toList());
        rule11Sizes();
        rule12Objects();
    }

    private static void none(int rule, List<?> against) {
        CALLS.holds("rule " + rule + ": against it are " + against, against.isEmpty());
    }

    private void rule1Names() {
        for (Map.Entry<String, Source.Method> entry : source.methods.entrySet()) {
            boolean isPublic = entry.getValue().tree().getModifiers().getFlags().toString().contains("public");
            boolean isOfTheFace = entry.getKey().startsWith("SleepingRooms.");
            CALLS.holds("rule 1: " + entry.getKey() + " does not bear a public name",
                isOfTheFace && isPublic || !FACE.contains(entry.getValue().name()));
        }
    }

    private void rule2Classes() {
        none(2, source.of(Kind.LAMBDA_EXPRESSION, Kind.MEMBER_REFERENCE));
        none(2, source.of(Kind.NEW_CLASS).stream().filter(piece -> ((NewClassTree) piece.tree()).getClassBody() != null).toList());
        none(2, source.of(Kind.CLASS).stream().filter(piece -> source.isInside(piece, Kind.METHOD)).toList());
        for (Source.Piece piece : source.of(Kind.CLASS)) {
            String flags = ((ClassTree) piece.tree()).getModifiers().getFlags().toString();
            boolean isOutermost = !source.isInside(piece, Kind.CLASS);
            CALLS.holds("rule 2: " + piece, isOutermost ? flags.equals("[public, final]")
                : flags.contains("static") && !flags.contains("public") && !flags.contains("protected"));
        }
    }

    private void rule3Types() {
        for (Source.Piece piece : source.of(Kind.VARIABLE)) {
            String type = source.typeOf(piece, ((VariableTree) piece.tree()).getType()).toString();
            CALLS.holds("rule 3: " + piece, type.matches("(int|boolean|char)(\\[\\])?|java\\.lang\\.String|SleepingRooms\\.\\w+"));
        }
        none(3, source.of(Kind.DOUBLE_LITERAL, Kind.FLOAT_LITERAL));
    }

    private void rule5StaticFields() {
        for (Source.Piece piece : source.of(Kind.VARIABLE)) {
            VariableTree field = (VariableTree) piece.tree();
            String flags = field.getModifiers().getFlags().toString();
            CALLS.holds("rule 5: " + piece, !flags.contains("static") || flags.contains("final")
                && field.getInitializer() != null && field.getType().toString().matches("int|long|boolean|char|String"));
        }
        none(5, source.of(Kind.BLOCK).stream().filter(piece -> ((BlockTree) piece.tree()).isStatic()).toList());
    }

    private void rule6Words() {
        none(6, source.of(Kind.THROW, Kind.TRY, Kind.CATCH, Kind.SYNCHRONIZED, Kind.ASSERT));
        none(6, source.of(Kind.EQUAL_TO, Kind.NOT_EQUAL_TO).stream().filter(piece ->
            isText(piece, ((BinaryTree) piece.tree()).getLeftOperand())
                || isText(piece, ((BinaryTree) piece.tree()).getRightOperand())).toList());
        for (Source.Method method : source.methods.values()) {
            CALLS.holds("rule 6: " + method.name() + " tells of no exception", method.tree().getThrows().isEmpty());
            CALLS.holds("rule 6: " + method.name(), !Set.of("equals", "hashCode", "toString").contains(method.name()));
        }
    }

    private boolean isText(Source.Piece piece, Tree part) {
        Object type = source.typeOf(piece, part);
        return type != null && type.toString().equals("java.lang.String");
    }

    /** What the machine could refuse: indexes (all in Row, which tests them), divisors, casts, and null. */
    private void rule7NothingThrows() {
        none(7, source.of(Kind.ARRAY_ACCESS).stream().filter(piece -> !piece.inClass().equals("Row")).toList());
        none(7, source.of(Kind.NEW_ARRAY).stream().filter(piece -> !piece.inClass().equals("Row")).toList());
        none(7, source.of(Kind.DIVIDE, Kind.REMAINDER, Kind.DIVIDE_ASSIGNMENT, Kind.REMAINDER_ASSIGNMENT));
        none(7, source.of(Kind.TYPE_CAST, Kind.NULL_LITERAL));
        for (Source.Piece piece : source.of(Kind.VARIABLE)) {
            VariableTree field = (VariableTree) piece.tree();
            boolean isField = piece.path().getParentPath().getLeaf().getKind() == Kind.CLASS;
            boolean isReference = !field.getType().toString().matches("int|boolean");
            CALLS.holds("rule 7: a reference that never is null, " + piece,
                !isField || !isReference || field.getModifiers().getFlags().toString().contains("final"));
        }
    }

    private void rule8Recursion() {
        for (String method : source.methods.keySet()) {
            CALLS.holds("rule 8: " + method + " does not come back to itself", source.depth(method, 50) < 50);
        }
    }

    private void rule9Loops() {
        for (Source.Piece piece : source.of(Kind.FOR_LOOP, Kind.WHILE_LOOP, Kind.DO_WHILE_LOOP)) {
            CALLS.holds("rule 9: a counter against a bound, " + piece, condition(piece.tree()).matches(".*\\w <=? .*"));
        }
    }

    private static String condition(Tree loop) {
        ExpressionTree condition = loop instanceof ForLoopTree ? ((ForLoopTree) loop).getCondition()
            : loop instanceof WhileLoopTree ? ((WhileLoopTree) loop).getCondition() : ((DoWhileLoopTree) loop).getCondition();
        return String.valueOf(condition);
    }

    private void rule11Sizes() {
        for (Map.Entry<String, Source.Method> entry : source.methods.entrySet()) {
            Source.Method method = entry.getValue();
            CALLS.holds("rule 11: " + entry.getKey() + " takes at most seven", method.tree().getParameters().size() <= 7);
            CALLS.holds("rule 11: " + entry.getKey() + " has " + method.lines() + " lines", method.lines() <= 60);
            int depth = source.depth(entry.getKey(), 50);
            CALLS.holds("rule 11: " + entry.getKey() + " goes " + depth + " deep", depth <= 8);
        }
        CALLS.holds("rule 11: the methods are seen", source.methods.size() > 100 && source.depth("SleepingRooms.plan", 50) > 4);
        CALLS.holds("rule 11: at most twelve classes", source.of(Kind.CLASS).size() <= 12);
        for (Source.Piece piece : source.of(Kind.CLASS)) {
            long fields = ((ClassTree) piece.tree()).getMembers().stream().filter(member -> member instanceof VariableTree
                && !((VariableTree) member).getModifiers().getFlags().toString().contains("static")).count();
            CALLS.holds("rule 11: " + piece + " has " + fields + " fields", fields <= 20);
        }
    }

    private void rule12Objects() {
        none(12, source.of(Kind.NEW_CLASS, Kind.NEW_ARRAY).stream()
            .filter(piece -> piece.inMethod() != null && !piece.inMethod().equals("new")).toList());
        none(12, source.of(Kind.NEW_CLASS, Kind.NEW_ARRAY).stream().filter(piece ->
            source.isInside(piece, Kind.FOR_LOOP, Kind.WHILE_LOOP, Kind.DO_WHILE_LOOP, Kind.ENHANCED_FOR_LOOP)).toList());
    }

    private static void plainSigns() throws IOException {
        String text = Files.readString(PROGRAM);
        CALLS.holds("plain signs alone", text.chars().allMatch(c -> c == '\n' || c >= 32 && c < 127));
    }

    /** All runs share room for 600,000 objects and 7.3 million fields and elements: an object must stay small. */
    private static void sizeOfAnObject() {
        SleepingRooms x = new SleepingRooms();
        Map<Object, Integer> found = new IdentityHashMap<>();
        weigh(x, found);
        int cells = found.values().stream().mapToInt(Integer::intValue).sum();
        CALLS.holds("rule 12: an object consists of " + found.size() + " objects", found.size() <= 60);
        CALLS.holds("rule 12: an object has " + cells + " fields and elements", cells <= 700);
    }

    private static void weigh(Object object, Map<Object, Integer> found) {
        if (object == null || object instanceof String || found.containsKey(object)) {
            return;
        }
        if (object.getClass().isArray()) {
            found.put(object, Array.getLength(object));
            return;
        }
        int fields = 0;
        found.put(object, fields);
        try {
            for (Field field : object.getClass().getDeclaredFields()) {
                if (!Modifier.isStatic(field.getModifiers())) {
                    fields++;
                    field.setAccessible(true);
                    if (!field.getType().isPrimitive()) {
                        weigh(field.get(object), found);
                    }
                }
            }
        } catch (IllegalAccessException e) {
            throw new IllegalStateException(e);
        }
        found.put(object, fields);
    }
}
