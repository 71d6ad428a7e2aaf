import java.util.ArrayList;
import java.util.List;

/** A call that returns an error changes nothing; and where several errors apply, the first one counts. */
public final class ErrorsTest {
    private static final Calls CALLS = new Calls("ErrorsTest");

    private static final String CHIP = "room(1, 1) = 0; room(2, 2) = 0; near(0, 1, 1) = 0; near(1, 2, 1) = 0;"
        + "keep(1, 3, 2) = 0; keep(2, 4, 0) = 0; scene(1, 0, 0, 0) = 0; scene(1, 2, 0, 0) = 1; scene(2, 1, 1, 1) = 2;"
        + "net(1, 0) = 0; net(2, 1) = 1; guard(0, 1, 2) = 1; lift(1, 3) = 0; step(0, 0, 0) = 1; step(4, 1, 2) = 2;"
        + "key(110) = 1; key(101) = 2;";

    public static void main(String[] args) {
        sameAfter("a chip", CHIP,
            "room(6, 4) = UNKNOWN; room(1, 4) = UNKNOWN; near(0, 6, 2) = UNKNOWN; near(0, 1, 3) = OUTSIDE;",
            "near(3, 3, 1) = STATE; net(0, 6) = UNKNOWN; net(4, 4) = STATE; scene(0, 0, 0, 4) = OUTSIDE;",
            "scene(1, 2, 0, 0) = STATE; scene(0, 3, 3, 3) = STATE; guard(2, 0, 0) = UNKNOWN; guard(0, 0, 4) = UNKNOWN;",
            "guard(0, 2, 0) = OUTSIDE; open(2) = UNKNOWN; lift(2, 0) = UNKNOWN; lift(1, 4) = OUTSIDE;",
            "keep(6, 0, 0) = UNKNOWN; keep(1, 0, 4) = UNKNOWN; keep(1, 10, 0) = OUTSIDE; ofRoom(6, 6) = UNKNOWN;",
            "ofNet(2, 10) = UNKNOWN; ofNet(0, 10) = OUTSIDE; fault(0, 3) = UNKNOWN; faults(5) = OUTSIDE;",
            "way(0, 6, 9) = UNKNOWN; way(0, 1, 9) = OUTSIDE; way(1, 1, 0) = STATE; step(4, 0, 4) = OUTSIDE;",
            "step(5, 0, 0) = OUTSIDE; stepAt(2, 3) = UNKNOWN; stepAt(0, 3) = OUTSIDE; judge(3, 7) = UNKNOWN;",
            "judge(0, 7) = OUTSIDE; stride(0, 3, 9) = UNKNOWN; stride(0, 1, 9) = OUTSIDE; plan(0, 3) = UNKNOWN;",
            "plan(0, 2) = STATE; key(128) = OUTSIDE; text(2, 40) = UNKNOWN; text(0, 40) = OUTSIDE; many(7) = OUTSIDE;",
            "line() = -102");
        sameAfter("queries", CHIP,
            "ofRoom(1, 4) = 6; ofRoom(1, 5) = 0; levelIn(1, 1) = 2; ofNet(0, 9) = 7; fault(0, 0) = 1; faults(1) = 2;",
            "way(0, 2, NONE) = 3; judge(1, 0) = 0; judge(1, 2) = 1; stride(0, 1, NONE) = 2; text(0, -1) = 16; many(5) = 2");
        fullChip();
        CALLS.end();
    }

    private static void fullChip() {
        StringBuilder rows = new StringBuilder();
        for (int n = 0; n < 16; n++) {
            rows.append("net(1, 0) = ").append(n).append("; guard(").append(n).append(", 0, 0) = 1;");
        }
        rows.append("scene(1, 1, 1, 0) = 0; scene(1, 0, 1, 0) = 1; scene(1, 0, 2, 0) = 2; scene(1, 2, 2, 0) = 3;");
        rows.append("scene(2, 2, 2, 0) = 4; scene(3, 2, 2, 0) = 5; scene(3, 2, 2, 1) = 6; scene(3, 2, 1, 2) = 7;");
        rows.append("room(1, 1) = 0; room(2, 1) = 0; room(3, 1) = 0; keep(1, 1, 0) = 0; keep(2, 1, 0) = 0; keep(3, 1, 0) = 0;");
        for (int k = 1; k <= 40; k++) {
            rows.append("step(4, 1, ").append(k % 4).append(") = ").append(k).append(";");
        }
        for (int k = 1; k <= 24; k++) {
            rows.append("key(114) = ").append(k).append(";");
        }
        sameAfter("a full chip", rows.toString(),
            "net(0, 1) = FULL; net(0, 0) = STATE; net(0, 6) = UNKNOWN; scene(1, 0, 0, 3) = FULL; scene(0, 0, 0, 3) = STATE;",
            "scene(1, 1, 1, 0) = STATE; scene(1, 0, 0, 4) = OUTSIDE; step(0, 0, 0) = FULL; step(0, 16, 0) = OUTSIDE;",
            "plan(0, 4) = FULL; plan(0, 7) = STATE; plan(8, 0) = UNKNOWN; key(110) = FULL; key(128) = OUTSIDE; line() = -101");
    }

    /** Compares an object that has got the calls with one that has not. */
    private static void sameAfter(String name, String setup, String... rows) {
        SleepingRooms touched = CALLS.fresh(name, setup);
        SleepingRooms untouched = CALLS.fresh(name, setup);
        CALLS.on(touched, name, rows);
        List<Integer> got = state(touched);
        List<Integer> want = state(untouched);
        for (int i = 0; i < want.size(); i++) {
            CALLS.due(name + ": state after errors", "answer " + i, got.get(i), want.get(i));
        }
    }

    private static List<Integer> state(SleepingRooms x) {
        List<Integer> answers = new ArrayList<>();
        for (int what = 0; what < 7; what++) {
            answers.add(x.many(what));
        }
        for (int r = 0; r < 6; r++) {
            for (int what = 0; what < 4; what++) {
                answers.add(x.ofRoom(r, what));
            }
        }
        for (int c = 0; c < x.many(0); c++) {
            for (int s = 0; s < 4; s++) {
                answers.add(x.levelIn(c, s));
            }
        }
        for (int n = 0; n < x.many(1); n++) {
            for (int what = 0; what < 5; what++) {
                answers.add(x.ofNet(n, what));
            }
        }
        for (int k = 0; k < x.many(3); k++) {
            answers.add(x.stepAt(k, 0) * 256 + x.stepAt(k, 1) * 16 + x.stepAt(k, 2));
        }
        answers.add(x.line());
        return answers;
    }
}
