import java.io.IOException;
import java.util.Map;
import java.util.TreeMap;

/** The three examples that close the document's description, call by call, as they stand there. */
public final class ExamplesTest {
    private static final Map<Integer, String> EXAMPLES = new TreeMap<>(Map.of(
        1, "scene(1, 0, 0, 0) = 0; scene(1, 2, 0, 0) = 1; room(1, 1) = 0; net(1, 0) = 0; fault(0, 0) = 1; "
            + "fault(0, 1) = 4; mend() = 1; ofNet(0, 3) = 0; keep(1, 4, 0) = 0; plan(1, 0) = 3; stepAt(0, 0) = 0; "
            + "judge(1, 3) = 0; judge(1, 5) = 2; text(0, -1) = 15; text(0, 3) = 32; stride(1, 0, -9) = 2",
        2, "key(115) = 1; key(99) = 2; key(101) = 3; key(110) = 4; key(101) = 5; key(32) = 6; key(49) = 7; "
            + "key(32) = 8; key(48) = 9; key(50) = 10; key(32) = 11; key(51) = 12; key(32) = 13; key(48) = 14; "
            + "line() = 1000; levelIn(0, 1) = 2",
        3, "key(110) = 1; key(101) = 2; key(97) = 3; key(114) = 4; key(32) = 5; key(48) = 6; key(32) = 7; "
            + "key(54) = 8; line() = -107; blank() = 8; step(4, 0, 0) = 1; judge(0, 0) = -1; "
            + "scene(0, 1, 1, 1) = -3; way(0, 0, 1) = -3; way(0, 1, -9) = -9; many(5) = 0"));

    public static void main(String[] args) throws IOException {
        Calls calls = new Calls("ExamplesTest");
        for (Map.Entry<Integer, String> example : EXAMPLES.entrySet()) {
            calls.fresh("example " + example.getKey(), example.getValue());
        }
        Document document = Document.shared();
        calls.holds("these are the document's examples",
            !document.isThere() || document.examples().equals(EXAMPLES));
        calls.end();
    }
}
